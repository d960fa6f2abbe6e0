set_option maxRecDepth 100000 in
set_option maxHeartbeats 8000000 in
noncomputable def f_X2_undoInAndDouble (M : Mem) (a0 : Nat) (p1 : Int32) (p2 : Int32) (p3 : Int32) : Option Mem :=
  grd (vp_in p2 7) (bv (p1 - (stV p2.toNatClampNeg) : Int32) (fun x2 => bv (p2 - 1 : Int32) (fun x3 => Option.bind (loopO (σ := Mem × Int32 × Int32 × Int32 × Int32 × Int32) (ρ := Mem) (fun s4 => if s4.2.2.2.2.2 < 0 then (some (.inr s4.1)) else (bv (ir s4.2.1 6 : Int32) (fun x12 => bv (s4.2.1 / 6 : Int32) (fun x13 => grd (vp_in (p2 - 1) 7) (bv (((stV (p2 - 1).toNatClampNeg) + (x13 * s4.2.2.2.1)) + s4.2.2.1 : Int32) (fun x15 => bv (fun (s17 : Mem) => bv (s4.2.2.1 + (x12 * s4.2.2.2.1) : Int32) (fun x20 => bv (s4.2.2.2.1 * 6 : Int32) (fun x21 => bv (s4.2.2.2.2.2 + (-1) : Int32) (fun x22 => some (.inl (s17, x13, x20, x21, x12, x22)))))) (fun j16 => if x15 < 0 then (j16 s4.1) else (if 9331 ≤ x15 then (j16 s4.1) else (grd (okO s4.1 2 a0) (Option.bind (mR s4.1 a0 2) (fun r24 => grd (okO s4.1 16 r24) (grd (vp_in x15 (mL s4.1 r24)) (if (mI s4.1 r24 x15.toNatClampNeg) = (-1) then (bv (((sr p3 (3 * x12)) &&& 7) - 1 : Int32) (fun x27 => Option.bind (mR s4.1 a0 1) (fun r28 => grd (okO s4.1 8 r28) (Option.bind (f_X8_weightOf s4.1 r28 1 x12 s4.2.2.2.2.2 (p2 - 1) x27) (fun q30 => bv (fun (s36 : Mem) => Option.bind (f_X2_note s36 a0 x15) (fun q40 => j16 q40)) (fun j35 => if q30.2 = (-1) then (if s4.2.2.2.2.1 = x12 then (Option.bind (mR q30.1 a0 1) (fun r45 => grd (okO q30.1 8 r45) (Option.bind (f_X8_weightOf q30.1 r45 3 x12 s4.2.2.2.2.2 (p2 - 1) x27) (fun q47 => if q47.2 = (-1) then (j16 q47.1) else (j35 q47.1))))) else (j16 q30.1)) else (j35 q30.1))))))) else (j16 s4.1)))))))))))))) (M, x2, 0, 1, (-1), x3)) (fun (x10 : Mem) => some x10))))
abbrev Y_X2_undoInAndDouble : Sta := (RX2, "undoInAndDouble", cX2_undoInAndDouble, 12, none, 5)
set_option maxRecDepth 100000 in
set_option maxHeartbeats 8000000 in
theorem t_X2_undoInAndDouble {l : Launch} {G : Gh} {M : Mem} {a0 : Nat} {p1 : Int32} {p2 : Int32} {p3 : Int32} {q : Mem} (h : f_X2_undoInAndDouble M a0 p1 p2 p3 = some q) : Ctr l G yX2_undoInAndDouble Y_X2_undoInAndDouble M [.ref (gh G + a0), .int p1, .int p2, .int p3] q (none) := by
  refine Ctr.of (Y := Y_X2_undoInAndDouble) (L := [some (.ref (gh G + a0)), some (.int p1), some (.int p2), some (.int p3), none, none, none, none, none, none, none, none]) (t := Option.bind (f_X2_undoInAndDouble M a0 p1 p2 p3) (fun q => some (q, (none : Option Value)))) (by decide) rfl rfl (nle rfl) (Lof_in 8 _ rfl) (fun X hG hl => ?_) (by rw [h]; rfl)
  subst hG
  subst hl
  unfold f_X2_undoInAndDouble
  refine s_iload_n (pc := 0) 1 dX2_undoInAndDouble_0 rfl rfl ?_
  refine s_start (pc := 1) dX2_undoInAndDouble_1 (List.mem_of_getElem? (i := 24) rfl) ?_
  refine s_iload_n (pc := 4) 2 dX2_undoInAndDouble_4 rfl rfl ?_
  refine s_grd (fun i1 => ?_)
  refine s_sti (pc := 5) i1 dX2_undoInAndDouble_5 ?_
  refine s_isub (pc := 6) dX2_undoInAndDouble_6 ?_
  refine s_istore (pc := 7) dX2_undoInAndDouble_7 (nlt rfl) rfl (L' := [some (.ref (gh (xG X) + a0)), some (.int p1), some (.int p2), some (.int p3), some (.int (p1 - (stV p2.toNatClampNeg))), none, none, none, none, none, none, none]) rfl ?_
  refine s_bv (fun x2 : Int32 => [some (.ref (gh (xG X) + a0)), some (.int p1), some (.int p2), some (.int p3), some (.int x2), none, none, none, none, none, none, none]) (fun x2 => ?_) rfl
  refine s_iconst (pc := 9) 0 dX2_undoInAndDouble_9 kc_0 ?_
  refine s_istore (pc := 10) dX2_undoInAndDouble_10 (nlt rfl) rfl (L' := [some (.ref (gh (xG X) + a0)), some (.int p1), some (.int p2), some (.int p3), some (.int x2), some (.int 0), none, none, none, none, none, none]) rfl ?_
  refine s_iconst (pc := 12) 1 dX2_undoInAndDouble_12 kc_1 ?_
  refine s_istore (pc := 13) dX2_undoInAndDouble_13 (nlt rfl) rfl (L' := [some (.ref (gh (xG X) + a0)), some (.int p1), some (.int p2), some (.int p3), some (.int x2), some (.int 0), some (.int 1), none, none, none, none, none]) rfl ?_
  refine s_iconst (pc := 15) (-1) dX2_undoInAndDouble_15 kc_m1 ?_
  refine s_istore (pc := 16) dX2_undoInAndDouble_16 (nlt rfl) rfl (L' := [some (.ref (gh (xG X) + a0)), some (.int p1), some (.int p2), some (.int p3), some (.int x2), some (.int 0), some (.int 1), some (.int (-1)), none, none, none, none]) rfl ?_
  refine s_iload_n (pc := 18) 2 dX2_undoInAndDouble_18 rfl rfl ?_
  refine s_iconst (pc := 19) 1 dX2_undoInAndDouble_19 kc_1 ?_
  refine s_isub (pc := 20) dX2_undoInAndDouble_20 ?_
  refine s_istore (pc := 21) dX2_undoInAndDouble_21 (nlt rfl) rfl (L' := [some (.ref (gh (xG X) + a0)), some (.int p1), some (.int p2), some (.int p3), some (.int x2), some (.int 0), some (.int 1), some (.int (-1)), some (.int (p2 - 1)), none, none, none]) rfl ?_
  refine s_bv (fun x3 : Int32 => [some (.ref (gh (xG X) + a0)), some (.int p1), some (.int p2), some (.int p3), some (.int x2), some (.int 0), some (.int 1), some (.int (-1)), some (.int x3), none, none, none]) (fun x3 => ?_) rfl
  refine s_drop (L' := [some (.ref (gh (xG X) + a0)), none, some (.int p2), some (.int p3), some (.int x2), some (.int 0), some (.int 1), some (.int (-1)), some (.int x3), none, none, none]) ?_ (And.intro rfl (And.intro rfl (And.intro rfl (And.intro rfl (And.intro rfl (And.intro rfl (And.intro rfl (And.intro rfl trivial))))))))
  refine s_loop1 M (fun s4 : Mem × Int32 × Int32 × Int32 × Int32 × Int32 => s4.1) (fun s4 : Mem × Int32 × Int32 × Int32 × Int32 × Int32 => [some (.ref (gh (xG X) + a0)), none, some (.int p2), some (.int p3), some (.int s4.2.1), some (.int s4.2.2.1), some (.int s4.2.2.2.1), some (.int s4.2.2.2.2.1), some (.int s4.2.2.2.2.2), none, none, none]) (fun x10 : Mem => x10) 179 (fun x10 : Mem => [none, none, none, none, none, none, none, none, none, none, none, none]) (fun x10 hx11 => ?_) (fun T6 R8 hT7 hR9 s4 hs5 => ?_) (M, x2, 0, 1, (-1), x3) Le.rf
  · show S0 X _ x10 179 [none, none, none, none, none, none, none, none, none, none, none, none] [] _
    exact s_vret rfl dX2_undoInAndDouble_179
  · show S0 X _ s4.1 23 [some (.ref (gh (xG X) + a0)), none, some (.int p2), some (.int p3), some (.int s4.2.1), some (.int s4.2.2.1), some (.int s4.2.2.2.1), some (.int s4.2.2.2.2.1), some (.int s4.2.2.2.2.2), none, none, none] [] _
    refine s_iload (pc := 23) dX2_undoInAndDouble_23 rfl ?_
    refine s_iflt (pc := 25) 179 dX2_undoInAndDouble_25 rfl ?_ ?_
    · exact s_drop (hR9 s4.1 hs5) trivial
    · refine s_iload (pc := 28) dX2_undoInAndDouble_28 rfl ?_
      refine s_bipush (pc := 30) 6 dX2_undoInAndDouble_30 kb_6 ?_
      refine s_irem (pc := 32) dX2_undoInAndDouble_32 (by decide) ?_
      refine s_istore (pc := 33) dX2_undoInAndDouble_33 (nlt rfl) rfl (L' := [some (.ref (gh (xG X) + a0)), none, some (.int p2), some (.int p3), some (.int s4.2.1), some (.int s4.2.2.1), some (.int s4.2.2.2.1), some (.int s4.2.2.2.2.1), some (.int s4.2.2.2.2.2), some (.int (ir s4.2.1 6)), none, none]) rfl ?_
      refine s_bv (fun x12 : Int32 => [some (.ref (gh (xG X) + a0)), none, some (.int p2), some (.int p3), some (.int s4.2.1), some (.int s4.2.2.1), some (.int s4.2.2.2.1), some (.int s4.2.2.2.2.1), some (.int s4.2.2.2.2.2), some (.int x12), none, none]) (fun x12 => ?_) rfl
      refine s_iload (pc := 35) dX2_undoInAndDouble_35 rfl ?_
      refine s_bipush (pc := 37) 6 dX2_undoInAndDouble_37 kb_6 ?_
      refine s_idiv (pc := 39) dX2_undoInAndDouble_39 (by decide) ?_
      refine s_istore (pc := 40) dX2_undoInAndDouble_40 (nlt rfl) rfl (L' := [some (.ref (gh (xG X) + a0)), none, some (.int p2), some (.int p3), some (.int (s4.2.1 / 6)), some (.int s4.2.2.1), some (.int s4.2.2.2.1), some (.int s4.2.2.2.2.1), some (.int s4.2.2.2.2.2), some (.int x12), none, none]) rfl ?_
      refine s_bv (fun x13 : Int32 => [some (.ref (gh (xG X) + a0)), none, some (.int p2), some (.int p3), some (.int x13), some (.int s4.2.2.1), some (.int s4.2.2.2.1), some (.int s4.2.2.2.2.1), some (.int s4.2.2.2.2.2), some (.int x12), none, none]) (fun x13 => ?_) rfl
      refine s_start (pc := 42) dX2_undoInAndDouble_42 (List.mem_of_getElem? (i := 24) rfl) ?_
      refine s_iload_n (pc := 45) 2 dX2_undoInAndDouble_45 rfl rfl ?_
      refine s_iconst (pc := 46) 1 dX2_undoInAndDouble_46 kc_1 ?_
      refine s_isub (pc := 47) dX2_undoInAndDouble_47 ?_
      refine s_grd (fun i14 => ?_)
      refine s_sti (pc := 48) i14 dX2_undoInAndDouble_48 ?_
      refine s_iload (pc := 49) dX2_undoInAndDouble_49 rfl ?_
      refine s_iload (pc := 51) dX2_undoInAndDouble_51 rfl ?_
      refine s_imul (pc := 53) dX2_undoInAndDouble_53 ?_
      refine s_iadd (pc := 54) dX2_undoInAndDouble_54 ?_
      refine s_iload (pc := 55) dX2_undoInAndDouble_55 rfl ?_
      refine s_iadd (pc := 57) dX2_undoInAndDouble_57 ?_
      refine s_istore (pc := 58) dX2_undoInAndDouble_58 (nlt rfl) rfl (L' := [some (.ref (gh (xG X) + a0)), none, some (.int p2), some (.int p3), some (.int x13), some (.int s4.2.2.1), some (.int s4.2.2.2.1), some (.int s4.2.2.2.2.1), some (.int s4.2.2.2.2.2), some (.int x12), some (.int (((stV (p2 - 1).toNatClampNeg) + (x13 * s4.2.2.2.1)) + s4.2.2.1)), none]) rfl ?_
      refine s_bv (fun x15 : Int32 => [some (.ref (gh (xG X) + a0)), none, some (.int p2), some (.int p3), some (.int x13), some (.int s4.2.2.1), some (.int s4.2.2.2.1), some (.int s4.2.2.2.2.1), some (.int s4.2.2.2.2.2), some (.int x12), some (.int x15), none]) (fun x15 => ?_) rfl
      refine s_iload (pc := 60) dX2_undoInAndDouble_60 rfl ?_
      refine s_join s4.1 (fun s17 : Mem => s17) 152 (fun s17 : Mem => [some (.ref (gh (xG X) + a0)), none, some (.int p2), some (.int p3), some (.int x13), some (.int s4.2.2.1), some (.int s4.2.2.2.1), none, some (.int s4.2.2.2.2.2), some (.int x12), none, none]) (fun s17 : Mem => []) (fun s17 hs18 => ?_) (fun j16 hj19 => ?_)
      · show S0 X _ s17 152 [some (.ref (gh (xG X) + a0)), none, some (.int p2), some (.int p3), some (.int x13), some (.int s4.2.2.1), some (.int s4.2.2.2.1), none, some (.int s4.2.2.2.2.2), some (.int x12), none, none] [] _
        refine s_iload (pc := 152) dX2_undoInAndDouble_152 rfl ?_
        refine s_iload (pc := 154) dX2_undoInAndDouble_154 rfl ?_
        refine s_iload (pc := 156) dX2_undoInAndDouble_156 rfl ?_
        refine s_imul (pc := 158) dX2_undoInAndDouble_158 ?_
        refine s_iadd (pc := 159) dX2_undoInAndDouble_159 ?_
        refine s_istore (pc := 160) dX2_undoInAndDouble_160 (nlt rfl) rfl (L' := [some (.ref (gh (xG X) + a0)), none, some (.int p2), some (.int p3), some (.int x13), some (.int (s4.2.2.1 + (x12 * s4.2.2.2.1))), some (.int s4.2.2.2.1), none, some (.int s4.2.2.2.2.2), some (.int x12), none, none]) rfl ?_
        refine s_bv (fun x20 : Int32 => [some (.ref (gh (xG X) + a0)), none, some (.int p2), some (.int p3), some (.int x13), some (.int x20), some (.int s4.2.2.2.1), none, some (.int s4.2.2.2.2.2), some (.int x12), none, none]) (fun x20 => ?_) rfl
        refine s_iload (pc := 162) dX2_undoInAndDouble_162 rfl ?_
        refine s_bipush (pc := 164) 6 dX2_undoInAndDouble_164 kb_6 ?_
        refine s_imul (pc := 166) dX2_undoInAndDouble_166 ?_
        refine s_istore (pc := 167) dX2_undoInAndDouble_167 (nlt rfl) rfl (L' := [some (.ref (gh (xG X) + a0)), none, some (.int p2), some (.int p3), some (.int x13), some (.int x20), some (.int (s4.2.2.2.1 * 6)), none, some (.int s4.2.2.2.2.2), some (.int x12), none, none]) rfl ?_
        refine s_bv (fun x21 : Int32 => [some (.ref (gh (xG X) + a0)), none, some (.int p2), some (.int p3), some (.int x13), some (.int x20), some (.int x21), none, some (.int s4.2.2.2.2.2), some (.int x12), none, none]) (fun x21 => ?_) rfl
        refine s_iload (pc := 169) dX2_undoInAndDouble_169 rfl ?_
        refine s_istore (pc := 171) dX2_undoInAndDouble_171 (nlt rfl) rfl (L' := [some (.ref (gh (xG X) + a0)), none, some (.int p2), some (.int p3), some (.int x13), some (.int x20), some (.int x21), some (.int x12), some (.int s4.2.2.2.2.2), some (.int x12), none, none]) rfl ?_
        refine s_iinc (pc := 173) dX2_undoInAndDouble_173 rfl (v := s4.2.2.2.2.2 + (-1)) (congrArg (fun z : Int32 => s4.2.2.2.2.2 + z) kc_m1) (nlt rfl) rfl (L' := [some (.ref (gh (xG X) + a0)), none, some (.int p2), some (.int p3), some (.int x13), some (.int x20), some (.int x21), some (.int x12), some (.int (s4.2.2.2.2.2 + (-1))), some (.int x12), none, none]) rfl ?_
        refine s_bv (fun x22 : Int32 => [some (.ref (gh (xG X) + a0)), none, some (.int p2), some (.int p3), some (.int x13), some (.int x20), some (.int x21), some (.int x12), some (.int x22), some (.int x12), none, none]) (fun x22 => ?_) rfl
        refine s_goto (pc := 176) 23 dX2_undoInAndDouble_176 rfl ?_
        exact s_drop (hT7 (s17, x13, x20, x21, x12, x22) (hs5.tr hs18)) (And.intro rfl (And.intro rfl (And.intro rfl (And.intro rfl (And.intro rfl (And.intro rfl (And.intro rfl (And.intro rfl trivial))))))))
      · refine s_iflt (pc := 62) 152 dX2_undoInAndDouble_62 rfl ?_ ?_
        · exact s_drop (hj19 s4.1 Le.rf) (And.intro rfl (And.intro rfl (And.intro rfl (And.intro rfl (And.intro rfl (And.intro rfl (And.intro rfl (And.intro rfl trivial))))))))
        · refine s_iload (pc := 65) dX2_undoInAndDouble_65 rfl ?_
          refine s_sipush (pc := 67) 9331 dX2_undoInAndDouble_67 ks_9331 ?_
          refine s_icge (pc := 70) 152 dX2_undoInAndDouble_70 rfl ?_ ?_
          · exact s_drop (hj19 s4.1 Le.rf) (And.intro rfl (And.intro rfl (And.intro rfl (And.intro rfl (And.intro rfl (And.intro rfl (And.intro rfl (And.intro rfl trivial))))))))
          · refine s_aload_n (pc := 73) 0 dX2_undoInAndDouble_73 rfl rfl ?_
            refine s_grd (fun o23 => ?_)
            refine s_geto (pc := 74) F_2 2 rfl o23 dX2_undoInAndDouble_74 kf_X2_9 ?_
            refine s_rvB (fun r24 => ?_)
            refine s_iload (pc := 77) dX2_undoInAndDouble_77 rfl ?_
            refine s_grd (fun o25 => ?_)
            refine s_grd (fun i26 => ?_)
            refine s_sald (pc := 79) o25 i26 dX2_undoInAndDouble_79 ?_
            refine s_iconst (pc := 80) (-1) dX2_undoInAndDouble_80 kc_m1 ?_
            refine s_icne (pc := 81) 152 dX2_undoInAndDouble_81 rfl ?_ ?_
            · exact s_drop (hj19 s4.1 Le.rf) (And.intro rfl (And.intro rfl (And.intro rfl (And.intro rfl (And.intro rfl (And.intro rfl (And.intro rfl (And.intro rfl trivial))))))))
            · refine s_iload_n (pc := 84) 3 dX2_undoInAndDouble_84 rfl rfl ?_
              refine s_iconst (pc := 85) 3 dX2_undoInAndDouble_85 kc_3 ?_
              refine s_iload (pc := 86) dX2_undoInAndDouble_86 rfl ?_
              refine s_imul (pc := 88) dX2_undoInAndDouble_88 ?_
              refine s_ishr (pc := 89) dX2_undoInAndDouble_89 ?_
              refine s_bipush (pc := 90) 7 dX2_undoInAndDouble_90 kb_7 ?_
              refine s_iand (pc := 92) dX2_undoInAndDouble_92 ?_
              refine s_iconst (pc := 93) 1 dX2_undoInAndDouble_93 kc_1 ?_
              refine s_isub (pc := 94) dX2_undoInAndDouble_94 ?_
              refine s_istore (pc := 95) dX2_undoInAndDouble_95 (nlt rfl) rfl (L' := [some (.ref (gh (xG X) + a0)), none, some (.int p2), some (.int p3), some (.int x13), some (.int s4.2.2.1), some (.int s4.2.2.2.1), some (.int s4.2.2.2.2.1), some (.int s4.2.2.2.2.2), some (.int x12), some (.int x15), some (.int (((sr p3 (3 * x12)) &&& 7) - 1))]) rfl ?_
              refine s_bv (fun x27 : Int32 => [some (.ref (gh (xG X) + a0)), none, some (.int p2), some (.int p3), some (.int x13), some (.int s4.2.2.1), some (.int s4.2.2.2.1), some (.int s4.2.2.2.2.1), some (.int s4.2.2.2.2.2), some (.int x12), some (.int x15), some (.int x27)]) (fun x27 => ?_) rfl
              refine s_aload_n (pc := 97) 0 dX2_undoInAndDouble_97 rfl rfl ?_
              refine s_geto (pc := 98) F_2 1 rfl o23 dX2_undoInAndDouble_98 kf_X2_22 ?_
              refine s_rvB (fun r28 => ?_)
              refine s_iconst (pc := 101) 1 dX2_undoInAndDouble_101 kc_1 ?_
              refine s_iload (pc := 102) dX2_undoInAndDouble_102 rfl ?_
              refine s_iload (pc := 104) dX2_undoInAndDouble_104 rfl ?_
              refine s_iload_n (pc := 106) 2 dX2_undoInAndDouble_106 rfl rfl ?_
              refine s_iconst (pc := 107) 1 dX2_undoInAndDouble_107 kc_1 ?_
              refine s_isub (pc := 108) dX2_undoInAndDouble_108 ?_
              refine s_iload (pc := 109) dX2_undoInAndDouble_109 rfl ?_
              refine s_grd (fun o29 => ?_)
              refine s_bind (fun q30 hq31 => ?_)
              have hC32 := t_X8_weightOf (l := xl X) (G := xG X) hq31
              refine s_callV (pc := 111) (As := [.int 1, .int x12, .int s4.2.2.2.2.2, .int (p2 - 1), .int x27]) (st := []) (nlt rfl) (q := (RX8, TX8, 7)) rfl rfl o29 cl_X8_weightOf wi_X8_weightOf wl_X8_weightOf km_X2_97 rfl rfl (nle rfl) (nle rfl) (nle rfl) dX2_undoInAndDouble_111 hC32 ?_
              have h33 := hC32.1 X
              have o34 := h33.ok o23
              show S0 X _ q30.1 114 [some (.ref (gh (xG X) + a0)), none, some (.int p2), some (.int p3), some (.int x13), some (.int s4.2.2.1), some (.int s4.2.2.2.1), some (.int s4.2.2.2.2.1), some (.int s4.2.2.2.2.2), some (.int x12), some (.int x15), some (.int x27)] [.int q30.2] _
              refine s_iconst (pc := 114) (-1) dX2_undoInAndDouble_114 kc_m1 ?_
              refine s_join q30.1 (fun s36 : Mem => s36) 146 (fun s36 : Mem => [some (.ref (gh (xG X) + a0)), none, some (.int p2), some (.int p3), some (.int x13), some (.int s4.2.2.1), some (.int s4.2.2.2.1), none, some (.int s4.2.2.2.2.2), some (.int x12), some (.int x15), none]) (fun s36 : Mem => []) (fun s36 hs37 => ?_) (fun j35 hj38 => ?_)
              · show S0 X _ s36 146 [some (.ref (gh (xG X) + a0)), none, some (.int p2), some (.int p3), some (.int x13), some (.int s4.2.2.1), some (.int s4.2.2.2.1), none, some (.int s4.2.2.2.2.2), some (.int x12), some (.int x15), none] [] _
                have o39 := hs37.ok o34
                refine s_aload_n (pc := 146) 0 dX2_undoInAndDouble_146 rfl rfl ?_
                refine s_iload (pc := 147) dX2_undoInAndDouble_147 rfl ?_
                refine s_bind (fun q40 hq41 => ?_)
                have hC42 := t_X2_note (l := xl X) (G := xG X) hq41
                refine s_callV (pc := 149) (As := [.int x15]) (st := []) (nlt rfl) (q := (RX2, TX2, 11)) rfl rfl o39 cl_X2_note wi_X2_note wl_X2_note km_X2_62 rfl rfl (nle rfl) (nle rfl) (nle rfl) dX2_undoInAndDouble_149 hC42 ?_
                have h43 := hC42.1 X
                have o44 := h43.ok o39
                show S0 X _ q40 152 [some (.ref (gh (xG X) + a0)), none, some (.int p2), some (.int p3), some (.int x13), some (.int s4.2.2.1), some (.int s4.2.2.2.1), none, some (.int s4.2.2.2.2.2), some (.int x12), some (.int x15), none] [] _
                exact s_drop (hj19 q40 (h33.tr (hs37.tr h43))) (And.intro rfl (And.intro rfl (And.intro rfl (And.intro rfl (And.intro rfl (And.intro rfl (And.intro rfl (And.intro rfl trivial))))))))
              · refine s_icne (pc := 115) 146 dX2_undoInAndDouble_115 rfl ?_ ?_
                · exact s_drop (hj38 q30.1 Le.rf) (And.intro rfl (And.intro rfl (And.intro rfl (And.intro rfl (And.intro rfl (And.intro rfl (And.intro rfl (And.intro rfl (And.intro rfl trivial)))))))))
                · refine s_iload (pc := 118) dX2_undoInAndDouble_118 rfl ?_
                  refine s_iload (pc := 120) dX2_undoInAndDouble_120 rfl ?_
                  refine s_icne (pc := 122) 152 dX2_undoInAndDouble_122 rfl ?_ ?_
                  · exact s_drop (hj19 q30.1 h33) (And.intro rfl (And.intro rfl (And.intro rfl (And.intro rfl (And.intro rfl (And.intro rfl (And.intro rfl (And.intro rfl trivial))))))))
                  · refine s_aload_n (pc := 125) 0 dX2_undoInAndDouble_125 rfl rfl ?_
                    refine s_geto (pc := 126) F_2 1 rfl o34 dX2_undoInAndDouble_126 kf_X2_22 ?_
                    refine s_rvB (fun r45 => ?_)
                    refine s_iconst (pc := 129) 3 dX2_undoInAndDouble_129 kc_3 ?_
                    refine s_iload (pc := 130) dX2_undoInAndDouble_130 rfl ?_
                    refine s_iload (pc := 132) dX2_undoInAndDouble_132 rfl ?_
                    refine s_iload_n (pc := 134) 2 dX2_undoInAndDouble_134 rfl rfl ?_
                    refine s_iconst (pc := 135) 1 dX2_undoInAndDouble_135 kc_1 ?_
                    refine s_isub (pc := 136) dX2_undoInAndDouble_136 ?_
                    refine s_iload (pc := 137) dX2_undoInAndDouble_137 rfl ?_
                    refine s_grd (fun o46 => ?_)
                    refine s_bind (fun q47 hq48 => ?_)
                    have hC49 := t_X8_weightOf (l := xl X) (G := xG X) hq48
                    refine s_callV (pc := 139) (As := [.int 3, .int x12, .int s4.2.2.2.2.2, .int (p2 - 1), .int x27]) (st := []) (nlt rfl) (q := (RX8, TX8, 7)) rfl rfl o46 cl_X8_weightOf wi_X8_weightOf wl_X8_weightOf km_X2_97 rfl rfl (nle rfl) (nle rfl) (nle rfl) dX2_undoInAndDouble_139 hC49 ?_
                    have h50 := hC49.1 X
                    have o51 := h50.ok o34
                    show S0 X _ q47.1 142 [some (.ref (gh (xG X) + a0)), none, some (.int p2), some (.int p3), some (.int x13), some (.int s4.2.2.1), some (.int s4.2.2.2.1), some (.int s4.2.2.2.2.1), some (.int s4.2.2.2.2.2), some (.int x12), some (.int x15), some (.int x27)] [.int q47.2] _
                    refine s_iconst (pc := 142) (-1) dX2_undoInAndDouble_142 kc_m1 ?_
                    refine s_iceq (pc := 143) 152 dX2_undoInAndDouble_143 rfl ?_ ?_
                    · exact s_drop (hj19 q47.1 (h33.tr h50)) (And.intro rfl (And.intro rfl (And.intro rfl (And.intro rfl (And.intro rfl (And.intro rfl (And.intro rfl (And.intro rfl trivial))))))))
                    · exact s_drop (hj38 q47.1 h50) (And.intro rfl (And.intro rfl (And.intro rfl (And.intro rfl (And.intro rfl (And.intro rfl (And.intro rfl (And.intro rfl (And.intro rfl trivial)))))))))
set_option maxRecDepth 100000 in
set_option maxHeartbeats 8000000 in
noncomputable def f_X2_undoOut (M : Mem) (a0 : Nat) (p1 : Int32) (p2 : Int32) (p3 : Int32) : Option Mem :=
  grd (vp_in p2 7) (bv (p1 - (stV p2.toNatClampNeg) : Int32) (fun x2 => Option.bind (loopO (σ := Mem × Int32 × Int32 × Int32 × Int32) (ρ := Mem) (fun s3 => if s3.2.2.2.2 < 0 then (some (.inr s3.1)) else (grd (vp_in (p2 + 1) 7) (bv (((stV (p2 + 1).toNatClampNeg) + ((s3.2.1 * 6) * s3.2.2.2.1)) + s3.2.2.1 : Int32) (fun x12 => bv (fun (s14 : Int32) => Option.bind (loopO (σ := Mem × Int32 × Int32) (ρ := Mem) (fun s17 => if 6 ≤ s17.2.2 then (some (.inr s17.1)) else (if s14 = 0 then (some (.inr s17.1)) else (grd (okO s17.1 2 a0) (Option.bind (mR s17.1 a0 2) (fun r26 => grd (okO s17.1 16 r26) (grd (vp_in s17.2.1 (mL s17.1 r26)) (bv (fun (s30 : Mem) => bv (s17.2.1 + s3.2.2.2.1 : Int32) (fun x34 => bv (s17.2.2 + 1 : Int32) (fun x35 => some (.inl (s30, x34, x35))))) (fun j29 => if (mI s17.1 r26 s17.2.1.toNatClampNeg) = (-1) then (Option.bind (mR s17.1 a0 1) (fun r36 => grd (okO s17.1 8 r36) (Option.bind (f_X8_weightOf s17.1 r36 0 s17.2.2 s3.2.2.2.2 (p2 + 1) (((sr p3 (3 * s17.2.2)) &&& 7) + 1)) (fun q38 => if q38.2 = (-1) then (j29 q38.1) else (Option.bind (f_X2_note q38.1 a0 s17.2.1) (fun q43 => j29 q43)))))) else (j29 s17.1))))))))) (s3.1, x12, 0)) (fun (x23 : Mem) => bv (s3.2.2.1 + ((ir s3.2.1 6) * s3.2.2.2.1) : Int32) (fun x48 => bv (s3.2.1 / 6 : Int32) (fun x49 => bv (s3.2.2.2.1 * 6 : Int32) (fun x50 => bv (s3.2.2.2.2 + (-1) : Int32) (fun x51 => some (.inl (x23, x49, x48, x50, x51)))))))) (fun j13 => bv (fun (s53 : Unit) => j13 0) (fun j52 => if x12 < 0 then (j52 ()) else (if 9331 ≤ (x12 + (5 * s3.2.2.2.1)) then (j52 ()) else (j13 1)))))))) (M, x2, 0, 1, p2)) (fun (x9 : Mem) => some x9)))
abbrev Y_X2_undoOut : Sta := (RX2, "undoOut", cX2_undoOut, 11, none, 5)
set_option maxRecDepth 100000 in
set_option maxHeartbeats 8000000 in
theorem t_X2_undoOut {l : Launch} {G : Gh} {M : Mem} {a0 : Nat} {p1 : Int32} {p2 : Int32} {p3 : Int32} {q : Mem} (h : f_X2_undoOut M a0 p1 p2 p3 = some q) : Ctr l G yX2_undoOut Y_X2_undoOut M [.ref (gh G + a0), .int p1, .int p2, .int p3] q (none) := by
  refine Ctr.of (Y := Y_X2_undoOut) (L := [some (.ref (gh G + a0)), some (.int p1), some (.int p2), some (.int p3), none, none, none, none, none, none, none]) (t := Option.bind (f_X2_undoOut M a0 p1 p2 p3) (fun q => some (q, (none : Option Value)))) (by decide) rfl rfl (nle rfl) (Lof_in 7 _ rfl) (fun X hG hl => ?_) (by rw [h]; rfl)
  subst hG
  subst hl
  unfold f_X2_undoOut
  refine s_iload_n (pc := 0) 1 dX2_undoOut_0 rfl rfl ?_
  refine s_start (pc := 1) dX2_undoOut_1 (List.mem_of_getElem? (i := 24) rfl) ?_
  refine s_iload_n (pc := 4) 2 dX2_undoOut_4 rfl rfl ?_
  refine s_grd (fun i1 => ?_)
  refine s_sti (pc := 5) i1 dX2_undoOut_5 ?_
  refine s_isub (pc := 6) dX2_undoOut_6 ?_
  refine s_istore (pc := 7) dX2_undoOut_7 (nlt rfl) rfl (L' := [some (.ref (gh (xG X) + a0)), some (.int p1), some (.int p2), some (.int p3), some (.int (p1 - (stV p2.toNatClampNeg))), none, none, none, none, none, none]) rfl ?_
  refine s_bv (fun x2 : Int32 => [some (.ref (gh (xG X) + a0)), some (.int p1), some (.int p2), some (.int p3), some (.int x2), none, none, none, none, none, none]) (fun x2 => ?_) rfl
  refine s_iconst (pc := 9) 0 dX2_undoOut_9 kc_0 ?_
  refine s_istore (pc := 10) dX2_undoOut_10 (nlt rfl) rfl (L' := [some (.ref (gh (xG X) + a0)), some (.int p1), some (.int p2), some (.int p3), some (.int x2), some (.int 0), none, none, none, none, none]) rfl ?_
  refine s_iconst (pc := 12) 1 dX2_undoOut_12 kc_1 ?_
  refine s_istore (pc := 13) dX2_undoOut_13 (nlt rfl) rfl (L' := [some (.ref (gh (xG X) + a0)), some (.int p1), some (.int p2), some (.int p3), some (.int x2), some (.int 0), some (.int 1), none, none, none, none]) rfl ?_
  refine s_iload_n (pc := 15) 2 dX2_undoOut_15 rfl rfl ?_
  refine s_istore (pc := 16) dX2_undoOut_16 (nlt rfl) rfl (L' := [some (.ref (gh (xG X) + a0)), some (.int p1), some (.int p2), some (.int p3), some (.int x2), some (.int 0), some (.int 1), some (.int p2), none, none, none]) rfl ?_
  refine s_drop (L' := [some (.ref (gh (xG X) + a0)), none, some (.int p2), some (.int p3), some (.int x2), some (.int 0), some (.int 1), some (.int p2), none, none, none]) ?_ (And.intro rfl (And.intro rfl (And.intro rfl (And.intro rfl (And.intro rfl (And.intro rfl (And.intro rfl trivial)))))))
  refine s_loop1 M (fun s3 : Mem × Int32 × Int32 × Int32 × Int32 => s3.1) (fun s3 : Mem × Int32 × Int32 × Int32 × Int32 => [some (.ref (gh (xG X) + a0)), none, some (.int p2), some (.int p3), some (.int s3.2.1), some (.int s3.2.2.1), some (.int s3.2.2.2.1), some (.int s3.2.2.2.2), none, none, none]) (fun x9 : Mem => x9) 177 (fun x9 : Mem => [none, none, none, none, none, none, none, none, none, none, none]) (fun x9 hx10 => ?_) (fun T5 R7 hT6 hR8 s3 hs4 => ?_) (M, x2, 0, 1, p2) Le.rf
  · show S0 X _ x9 177 [none, none, none, none, none, none, none, none, none, none, none] [] _
    exact s_vret rfl dX2_undoOut_177
  · show S0 X _ s3.1 18 [some (.ref (gh (xG X) + a0)), none, some (.int p2), some (.int p3), some (.int s3.2.1), some (.int s3.2.2.1), some (.int s3.2.2.2.1), some (.int s3.2.2.2.2), none, none, none] [] _
    refine s_iload (pc := 18) dX2_undoOut_18 rfl ?_
    refine s_iflt (pc := 20) 177 dX2_undoOut_20 rfl ?_ ?_
    · exact s_drop (hR8 s3.1 hs4) trivial
    · refine s_start (pc := 23) dX2_undoOut_23 (List.mem_of_getElem? (i := 24) rfl) ?_
      refine s_iload_n (pc := 26) 2 dX2_undoOut_26 rfl rfl ?_
      refine s_iconst (pc := 27) 1 dX2_undoOut_27 kc_1 ?_
      refine s_iadd (pc := 28) dX2_undoOut_28 ?_
      refine s_grd (fun i11 => ?_)
      refine s_sti (pc := 29) i11 dX2_undoOut_29 ?_
      refine s_iload (pc := 30) dX2_undoOut_30 rfl ?_
      refine s_bipush (pc := 32) 6 dX2_undoOut_32 kb_6 ?_
      refine s_imul (pc := 34) dX2_undoOut_34 ?_
      refine s_iload (pc := 35) dX2_undoOut_35 rfl ?_
      refine s_imul (pc := 37) dX2_undoOut_37 ?_
      refine s_iadd (pc := 38) dX2_undoOut_38 ?_
      refine s_iload (pc := 39) dX2_undoOut_39 rfl ?_
      refine s_iadd (pc := 41) dX2_undoOut_41 ?_
      refine s_istore (pc := 42) dX2_undoOut_42 (nlt rfl) rfl (L' := [some (.ref (gh (xG X) + a0)), none, some (.int p2), some (.int p3), some (.int s3.2.1), some (.int s3.2.2.1), some (.int s3.2.2.2.1), some (.int s3.2.2.2.2), some (.int (((stV (p2 + 1).toNatClampNeg) + ((s3.2.1 * 6) * s3.2.2.2.1)) + s3.2.2.1)), none, none]) rfl ?_
      refine s_bv (fun x12 : Int32 => [some (.ref (gh (xG X) + a0)), none, some (.int p2), some (.int p3), some (.int s3.2.1), some (.int s3.2.2.1), some (.int s3.2.2.2.1), some (.int s3.2.2.2.2), some (.int x12), none, none]) (fun x12 => ?_) rfl
      refine s_iload (pc := 44) dX2_undoOut_44 rfl ?_
      refine s_join s3.1 (fun s14 : Int32 => s3.1) 67 (fun s14 : Int32 => [some (.ref (gh (xG X) + a0)), none, some (.int p2), some (.int p3), some (.int s3.2.1), some (.int s3.2.2.1), some (.int s3.2.2.2.1), some (.int s3.2.2.2.2), some (.int x12), none, none]) (fun s14 : Int32 => [.int s14]) (fun s14 hs15 => ?_) (fun j13 hj16 => ?_)
      · show S0 X _ s3.1 67 [some (.ref (gh (xG X) + a0)), none, some (.int p2), some (.int p3), some (.int s3.2.1), some (.int s3.2.2.1), some (.int s3.2.2.2.1), some (.int s3.2.2.2.2), some (.int x12), none, none] [.int s14] _
        refine s_istore (pc := 67) dX2_undoOut_67 (nlt rfl) rfl (L' := [some (.ref (gh (xG X) + a0)), none, some (.int p2), some (.int p3), some (.int s3.2.1), some (.int s3.2.2.1), some (.int s3.2.2.2.1), some (.int s3.2.2.2.2), some (.int x12), some (.int s14), none]) rfl ?_
        refine s_iconst (pc := 69) 0 dX2_undoOut_69 kc_0 ?_
        refine s_istore (pc := 70) dX2_undoOut_70 (nlt rfl) rfl (L' := [some (.ref (gh (xG X) + a0)), none, some (.int p2), some (.int p3), some (.int s3.2.1), some (.int s3.2.2.1), some (.int s3.2.2.2.1), some (.int s3.2.2.2.2), some (.int x12), some (.int s14), some (.int 0)]) rfl ?_
        refine s_drop (L' := [some (.ref (gh (xG X) + a0)), none, some (.int p2), some (.int p3), some (.int s3.2.1), some (.int s3.2.2.1), some (.int s3.2.2.2.1), some (.int s3.2.2.2.2), some (.int x12), some (.int s14), some (.int 0)]) ?_ (And.intro rfl (And.intro rfl (And.intro rfl (And.intro rfl (And.intro rfl (And.intro rfl (And.intro rfl (And.intro rfl (And.intro rfl (And.intro rfl trivial))))))))))
        refine s_loop1 s3.1 (fun s17 : Mem × Int32 × Int32 => s17.1) (fun s17 : Mem × Int32 × Int32 => [some (.ref (gh (xG X) + a0)), none, some (.int p2), some (.int p3), some (.int s3.2.1), some (.int s3.2.2.1), some (.int s3.2.2.2.1), some (.int s3.2.2.2.2), some (.int s17.2.1), some (.int s14), some (.int s17.2.2)]) (fun x23 : Mem => x23) 144 (fun x23 : Mem => [some (.ref (gh (xG X) + a0)), none, some (.int p2), some (.int p3), some (.int s3.2.1), some (.int s3.2.2.1), some (.int s3.2.2.2.1), some (.int s3.2.2.2.2), none, none, none]) (fun x23 hx24 => ?_) (fun T19 R21 hT20 hR22 s17 hs18 => ?_) (s3.1, x12, 0) Le.rf
        · show S0 X _ x23 144 [some (.ref (gh (xG X) + a0)), none, some (.int p2), some (.int p3), some (.int s3.2.1), some (.int s3.2.2.1), some (.int s3.2.2.2.1), some (.int s3.2.2.2.2), none, none, none] [] _
          refine s_iload (pc := 144) dX2_undoOut_144 rfl ?_
          refine s_iload (pc := 146) dX2_undoOut_146 rfl ?_
          refine s_bipush (pc := 148) 6 dX2_undoOut_148 kb_6 ?_
          refine s_irem (pc := 150) dX2_undoOut_150 (by decide) ?_
          refine s_iload (pc := 151) dX2_undoOut_151 rfl ?_
          refine s_imul (pc := 153) dX2_undoOut_153 ?_
          refine s_iadd (pc := 154) dX2_undoOut_154 ?_
          refine s_istore (pc := 155) dX2_undoOut_155 (nlt rfl) rfl (L' := [some (.ref (gh (xG X) + a0)), none, some (.int p2), some (.int p3), some (.int s3.2.1), some (.int (s3.2.2.1 + ((ir s3.2.1 6) * s3.2.2.2.1))), some (.int s3.2.2.2.1), some (.int s3.2.2.2.2), none, none, none]) rfl ?_
          refine s_bv (fun x48 : Int32 => [some (.ref (gh (xG X) + a0)), none, some (.int p2), some (.int p3), some (.int s3.2.1), some (.int x48), some (.int s3.2.2.2.1), some (.int s3.2.2.2.2), none, none, none]) (fun x48 => ?_) rfl
          refine s_iload (pc := 157) dX2_undoOut_157 rfl ?_
          refine s_bipush (pc := 159) 6 dX2_undoOut_159 kb_6 ?_
          refine s_idiv (pc := 161) dX2_undoOut_161 (by decide) ?_
          refine s_istore (pc := 162) dX2_undoOut_162 (nlt rfl) rfl (L' := [some (.ref (gh (xG X) + a0)), none, some (.int p2), some (.int p3), some (.int (s3.2.1 / 6)), some (.int x48), some (.int s3.2.2.2.1), some (.int s3.2.2.2.2), none, none, none]) rfl ?_
          refine s_bv (fun x49 : Int32 => [some (.ref (gh (xG X) + a0)), none, some (.int p2), some (.int p3), some (.int x49), some (.int x48), some (.int s3.2.2.2.1), some (.int s3.2.2.2.2), none, none, none]) (fun x49 => ?_) rfl
          refine s_iload (pc := 164) dX2_undoOut_164 rfl ?_
          refine s_bipush (pc := 166) 6 dX2_undoOut_166 kb_6 ?_
          refine s_imul (pc := 168) dX2_undoOut_168 ?_
          refine s_istore (pc := 169) dX2_undoOut_169 (nlt rfl) rfl (L' := [some (.ref (gh (xG X) + a0)), none, some (.int p2), some (.int p3), some (.int x49), some (.int x48), some (.int (s3.2.2.2.1 * 6)), some (.int s3.2.2.2.2), none, none, none]) rfl ?_
          refine s_bv (fun x50 : Int32 => [some (.ref (gh (xG X) + a0)), none, some (.int p2), some (.int p3), some (.int x49), some (.int x48), some (.int x50), some (.int s3.2.2.2.2), none, none, none]) (fun x50 => ?_) rfl
          refine s_iinc (pc := 171) dX2_undoOut_171 rfl (v := s3.2.2.2.2 + (-1)) (congrArg (fun z : Int32 => s3.2.2.2.2 + z) kc_m1) (nlt rfl) rfl (L' := [some (.ref (gh (xG X) + a0)), none, some (.int p2), some (.int p3), some (.int x49), some (.int x48), some (.int x50), some (.int (s3.2.2.2.2 + (-1))), none, none, none]) rfl ?_
          refine s_bv (fun x51 : Int32 => [some (.ref (gh (xG X) + a0)), none, some (.int p2), some (.int p3), some (.int x49), some (.int x48), some (.int x50), some (.int x51), none, none, none]) (fun x51 => ?_) rfl
          refine s_goto (pc := 174) 18 dX2_undoOut_174 rfl ?_
          exact s_drop (hT6 (x23, x49, x48, x50, x51) (hs4.tr hx24)) (And.intro rfl (And.intro rfl (And.intro rfl (And.intro rfl (And.intro rfl (And.intro rfl (And.intro rfl trivial)))))))
        · show S0 X _ s17.1 72 [some (.ref (gh (xG X) + a0)), none, some (.int p2), some (.int p3), some (.int s3.2.1), some (.int s3.2.2.1), some (.int s3.2.2.2.1), some (.int s3.2.2.2.2), some (.int s17.2.1), some (.int s14), some (.int s17.2.2)] [] _
          refine s_iload (pc := 72) dX2_undoOut_72 rfl ?_
          refine s_bipush (pc := 74) 6 dX2_undoOut_74 kb_6 ?_
          refine s_icge (pc := 76) 144 dX2_undoOut_76 rfl ?_ ?_
          · exact s_drop (hR22 s17.1 hs18) (And.intro rfl (And.intro rfl (And.intro rfl (And.intro rfl (And.intro rfl (And.intro rfl (And.intro rfl trivial)))))))
          · refine s_iload (pc := 79) dX2_undoOut_79 rfl ?_
            refine s_ifeq (pc := 81) 144 dX2_undoOut_81 rfl ?_ ?_
            · exact s_drop (hR22 s17.1 hs18) (And.intro rfl (And.intro rfl (And.intro rfl (And.intro rfl (And.intro rfl (And.intro rfl (And.intro rfl trivial)))))))
            · refine s_aload_n (pc := 84) 0 dX2_undoOut_84 rfl rfl ?_
              refine s_grd (fun o25 => ?_)
              refine s_geto (pc := 85) F_2 2 rfl o25 dX2_undoOut_85 kf_X2_9 ?_
              refine s_rvB (fun r26 => ?_)
              refine s_iload (pc := 88) dX2_undoOut_88 rfl ?_
              refine s_grd (fun o27 => ?_)
              refine s_grd (fun i28 => ?_)
              refine s_sald (pc := 90) o27 i28 dX2_undoOut_90 ?_
              refine s_iconst (pc := 91) (-1) dX2_undoOut_91 kc_m1 ?_
              refine s_join s17.1 (fun s30 : Mem => s30) 131 (fun s30 : Mem => [some (.ref (gh (xG X) + a0)), none, some (.int p2), some (.int p3), some (.int s3.2.1), some (.int s3.2.2.1), some (.int s3.2.2.2.1), some (.int s3.2.2.2.2), some (.int s17.2.1), some (.int s14), some (.int s17.2.2)]) (fun s30 : Mem => []) (fun s30 hs31 => ?_) (fun j29 hj32 => ?_)
              · show S0 X _ s30 131 [some (.ref (gh (xG X) + a0)), none, some (.int p2), some (.int p3), some (.int s3.2.1), some (.int s3.2.2.1), some (.int s3.2.2.2.1), some (.int s3.2.2.2.2), some (.int s17.2.1), some (.int s14), some (.int s17.2.2)] [] _
                have o33 := hs31.ok o25
                refine s_iload (pc := 131) dX2_undoOut_131 rfl ?_
                refine s_iload (pc := 133) dX2_undoOut_133 rfl ?_
                refine s_iadd (pc := 135) dX2_undoOut_135 ?_
                refine s_istore (pc := 136) dX2_undoOut_136 (nlt rfl) rfl (L' := [some (.ref (gh (xG X) + a0)), none, some (.int p2), some (.int p3), some (.int s3.2.1), some (.int s3.2.2.1), some (.int s3.2.2.2.1), some (.int s3.2.2.2.2), some (.int (s17.2.1 + s3.2.2.2.1)), some (.int s14), some (.int s17.2.2)]) rfl ?_
                refine s_bv (fun x34 : Int32 => [some (.ref (gh (xG X) + a0)), none, some (.int p2), some (.int p3), some (.int s3.2.1), some (.int s3.2.2.1), some (.int s3.2.2.2.1), some (.int s3.2.2.2.2), some (.int x34), some (.int s14), some (.int s17.2.2)]) (fun x34 => ?_) rfl
                refine s_iinc (pc := 138) dX2_undoOut_138 rfl (v := s17.2.2 + 1) (congrArg (fun z : Int32 => s17.2.2 + z) kc_1) (nlt rfl) rfl (L' := [some (.ref (gh (xG X) + a0)), none, some (.int p2), some (.int p3), some (.int s3.2.1), some (.int s3.2.2.1), some (.int s3.2.2.2.1), some (.int s3.2.2.2.2), some (.int x34), some (.int s14), some (.int (s17.2.2 + 1))]) rfl ?_
                refine s_bv (fun x35 : Int32 => [some (.ref (gh (xG X) + a0)), none, some (.int p2), some (.int p3), some (.int s3.2.1), some (.int s3.2.2.1), some (.int s3.2.2.2.1), some (.int s3.2.2.2.2), some (.int x34), some (.int s14), some (.int x35)]) (fun x35 => ?_) rfl
                refine s_goto (pc := 141) 72 dX2_undoOut_141 rfl ?_
                exact s_drop (hT20 (s30, x34, x35) (hs18.tr hs31)) (And.intro rfl (And.intro rfl (And.intro rfl (And.intro rfl (And.intro rfl (And.intro rfl (And.intro rfl (And.intro rfl (And.intro rfl (And.intro rfl trivial))))))))))
              · refine s_icne (pc := 92) 131 dX2_undoOut_92 rfl ?_ ?_
                · exact s_drop (hj32 s17.1 Le.rf) (And.intro rfl (And.intro rfl (And.intro rfl (And.intro rfl (And.intro rfl (And.intro rfl (And.intro rfl (And.intro rfl (And.intro rfl (And.intro rfl trivial))))))))))
                · refine s_aload_n (pc := 95) 0 dX2_undoOut_95 rfl rfl ?_
                  refine s_geto (pc := 96) F_2 1 rfl o25 dX2_undoOut_96 kf_X2_22 ?_
                  refine s_rvB (fun r36 => ?_)
                  refine s_iconst (pc := 99) 0 dX2_undoOut_99 kc_0 ?_
                  refine s_iload (pc := 100) dX2_undoOut_100 rfl ?_
                  refine s_iload (pc := 102) dX2_undoOut_102 rfl ?_
                  refine s_iload_n (pc := 104) 2 dX2_undoOut_104 rfl rfl ?_
                  refine s_iconst (pc := 105) 1 dX2_undoOut_105 kc_1 ?_
                  refine s_iadd (pc := 106) dX2_undoOut_106 ?_
                  refine s_iload_n (pc := 107) 3 dX2_undoOut_107 rfl rfl ?_
                  refine s_iconst (pc := 108) 3 dX2_undoOut_108 kc_3 ?_
                  refine s_iload (pc := 109) dX2_undoOut_109 rfl ?_
                  refine s_imul (pc := 111) dX2_undoOut_111 ?_
                  refine s_ishr (pc := 112) dX2_undoOut_112 ?_
                  refine s_bipush (pc := 113) 7 dX2_undoOut_113 kb_7 ?_
                  refine s_iand (pc := 115) dX2_undoOut_115 ?_
                  refine s_iconst (pc := 116) 1 dX2_undoOut_116 kc_1 ?_
                  refine s_iadd (pc := 117) dX2_undoOut_117 ?_
                  refine s_grd (fun o37 => ?_)
                  refine s_bind (fun q38 hq39 => ?_)
                  have hC40 := t_X8_weightOf (l := xl X) (G := xG X) hq39
                  refine s_callV (pc := 118) (As := [.int 0, .int s17.2.2, .int s3.2.2.2.2, .int (p2 + 1), .int (((sr p3 (3 * s17.2.2)) &&& 7) + 1)]) (st := []) (nlt rfl) (q := (RX8, TX8, 7)) rfl rfl o37 cl_X8_weightOf wi_X8_weightOf wl_X8_weightOf km_X2_97 rfl rfl (nle rfl) (nle rfl) (nle rfl) dX2_undoOut_118 hC40 ?_
                  have h41 := hC40.1 X
                  have o42 := h41.ok o25
                  show S0 X _ q38.1 121 [some (.ref (gh (xG X) + a0)), none, some (.int p2), some (.int p3), some (.int s3.2.1), some (.int s3.2.2.1), some (.int s3.2.2.2.1), some (.int s3.2.2.2.2), some (.int s17.2.1), some (.int s14), some (.int s17.2.2)] [.int q38.2] _
                  refine s_iconst (pc := 121) (-1) dX2_undoOut_121 kc_m1 ?_
                  refine s_iceq (pc := 122) 131 dX2_undoOut_122 rfl ?_ ?_
                  · exact s_drop (hj32 q38.1 h41) (And.intro rfl (And.intro rfl (And.intro rfl (And.intro rfl (And.intro rfl (And.intro rfl (And.intro rfl (And.intro rfl (And.intro rfl (And.intro rfl trivial))))))))))
                  · refine s_aload_n (pc := 125) 0 dX2_undoOut_125 rfl rfl ?_
                    refine s_iload (pc := 126) dX2_undoOut_126 rfl ?_
                    refine s_bind (fun q43 hq44 => ?_)
                    have hC45 := t_X2_note (l := xl X) (G := xG X) hq44
                    refine s_callV (pc := 128) (As := [.int s17.2.1]) (st := []) (nlt rfl) (q := (RX2, TX2, 11)) rfl rfl o42 cl_X2_note wi_X2_note wl_X2_note km_X2_62 rfl rfl (nle rfl) (nle rfl) (nle rfl) dX2_undoOut_128 hC45 ?_
                    have h46 := hC45.1 X
                    have o47 := h46.ok o42
                    show S0 X _ q43 131 [some (.ref (gh (xG X) + a0)), none, some (.int p2), some (.int p3), some (.int s3.2.1), some (.int s3.2.2.1), some (.int s3.2.2.2.1), some (.int s3.2.2.2.2), some (.int s17.2.1), some (.int s14), some (.int s17.2.2)] [] _
                    exact s_drop (hj32 q43 (h41.tr h46)) (And.intro rfl (And.intro rfl (And.intro rfl (And.intro rfl (And.intro rfl (And.intro rfl (And.intro rfl (And.intro rfl (And.intro rfl (And.intro rfl trivial))))))))))
      · refine s_join s3.1 (fun s53 : Unit => s3.1) 66 (fun s53 : Unit => [some (.ref (gh (xG X) + a0)), none, some (.int p2), some (.int p3), some (.int s3.2.1), some (.int s3.2.2.1), some (.int s3.2.2.2.1), some (.int s3.2.2.2.2), some (.int x12), none, none]) (fun s53 : Unit => []) (fun s53 hs54 => ?_) (fun j52 hj55 => ?_)
        · show S0 X _ s3.1 66 [some (.ref (gh (xG X) + a0)), none, some (.int p2), some (.int p3), some (.int s3.2.1), some (.int s3.2.2.1), some (.int s3.2.2.2.1), some (.int s3.2.2.2.2), some (.int x12), none, none] [] _
          refine s_iconst (pc := 66) 0 dX2_undoOut_66 kc_0 ?_
          exact s_drop (hj16 0 Le.rf) (And.intro rfl (And.intro rfl (And.intro rfl (And.intro rfl (And.intro rfl (And.intro rfl (And.intro rfl (And.intro rfl trivial))))))))
        · refine s_iflt (pc := 46) 66 dX2_undoOut_46 rfl ?_ ?_
          · exact s_drop (hj55 () Le.rf) (And.intro rfl (And.intro rfl (And.intro rfl (And.intro rfl (And.intro rfl (And.intro rfl (And.intro rfl (And.intro rfl trivial))))))))
          · refine s_iload (pc := 49) dX2_undoOut_49 rfl ?_
            refine s_iconst (pc := 51) 5 dX2_undoOut_51 kc_5 ?_
            refine s_iload (pc := 52) dX2_undoOut_52 rfl ?_
            refine s_imul (pc := 54) dX2_undoOut_54 ?_
            refine s_iadd (pc := 55) dX2_undoOut_55 ?_
            refine s_sipush (pc := 56) 9331 dX2_undoOut_56 ks_9331 ?_
            refine s_icge (pc := 59) 66 dX2_undoOut_59 rfl ?_ ?_
            · exact s_drop (hj55 () Le.rf) (And.intro rfl (And.intro rfl (And.intro rfl (And.intro rfl (And.intro rfl (And.intro rfl (And.intro rfl (And.intro rfl trivial))))))))
            · refine s_iconst (pc := 62) 1 dX2_undoOut_62 kc_1 ?_
              refine s_goto (pc := 63) 67 dX2_undoOut_63 rfl ?_
              exact s_drop (hj16 1 Le.rf) (And.intro rfl (And.intro rfl (And.intro rfl (And.intro rfl (And.intro rfl (And.intro rfl (And.intro rfl (And.intro rfl trivial))))))))
set_option maxRecDepth 100000 in
set_option maxHeartbeats 8000000 in
noncomputable def f_X2_undoStand (M : Mem) (a0 : Nat) (p1 : Int32) (p2 : Int32) (p3 : Int32) : Option Mem :=
  grd (vp_in p2 7) (bv (p1 - (stV p2.toNatClampNeg) : Int32) (fun x2 => bv (p2 - 1 : Int32) (fun x3 => Option.bind (loopO (σ := Mem × Int32 × Int32 × Int32) (ρ := Mem) (fun s4 => if s4.2.2.2 < 0 then (some (.inr s4.1)) else (bv (ir s4.2.1 6 : Int32) (fun x12 => Option.bind (loopO (σ := Mem × Int32) (ρ := Mem) (fun s13 => if 6 ≤ s13.2 then (some (.inr s13.1)) else (grd (okO s13.1 2 a0) (if ((sr (mI s13.1 a0 10) x12) &&& 1) = 1 then (bv (p1 + ((s13.2 - x12) * s4.2.2.1) : Int32) (fun x22 => Option.bind (mR s13.1 a0 0) (fun r23 => grd (okO s13.1 10 r23) (Option.bind (mR s13.1 r23 2) (fun r25 => grd (okO s13.1 14 r25) (grd (vp_in s13.2 (mL s13.1 r25)) (bv (fun (s29 : Mem) => bv (s13.2 + 1 : Int32) (fun x33 => some (.inl (s29, x33)))) (fun j28 => if (mI s13.1 r25 s13.2.toNatClampNeg) = x12 then (if x22 < 0 then (j28 s13.1) else (if 9331 ≤ x22 then (j28 s13.1) else (Option.bind (mR s13.1 a0 2) (fun r34 => grd (okO s13.1 16 r34) (grd (vp_in x22 (mL s13.1 r34)) (if (mI s13.1 r34 x22.toNatClampNeg) = (-1) then (Option.bind (mR s13.1 a0 1) (fun r37 => grd (okO s13.1 8 r37) (Option.bind (f_X8_weightOf s13.1 r37 4 s13.2 s4.2.2.2 p2 (((sr p3 (3 * s13.2)) &&& 7) + 1)) (fun q39 => if q39.2 = (-1) then (j28 q39.1) else (Option.bind (f_X2_note q39.1 a0 x22) (fun q44 => j28 q44)))))) else (j28 s13.1))))))) else (j28 s13.1))))))))) else (some (.inr s13.1))))) (s4.1, 0)) (fun (x19 : Mem) => bv (s4.2.1 / 6 : Int32) (fun x49 => bv (s4.2.2.1 * 6 : Int32) (fun x50 => bv (s4.2.2.2 + (-1) : Int32) (fun x51 => some (.inl (x19, x49, x50, x51))))))))) (M, x2, 1, x3)) (fun (x10 : Mem) => some x10))))
abbrev Y_X2_undoStand : Sta := (RX2, "undoStand", cX2_undoStand, 10, none, 5)
set_option maxRecDepth 100000 in
set_option maxHeartbeats 8000000 in
theorem t_X2_undoStand {l : Launch} {G : Gh} {M : Mem} {a0 : Nat} {p1 : Int32} {p2 : Int32} {p3 : Int32} {q : Mem} (h : f_X2_undoStand M a0 p1 p2 p3 = some q) : Ctr l G yX2_undoStand Y_X2_undoStand M [.ref (gh G + a0), .int p1, .int p2, .int p3] q (none) := by
  refine Ctr.of (Y := Y_X2_undoStand) (L := [some (.ref (gh G + a0)), some (.int p1), some (.int p2), some (.int p3), none, none, none, none, none, none]) (t := Option.bind (f_X2_undoStand M a0 p1 p2 p3) (fun q => some (q, (none : Option Value)))) (by decide) rfl rfl (nle rfl) (Lof_in 6 _ rfl) (fun X hG hl => ?_) (by rw [h]; rfl)
  subst hG
  subst hl
  unfold f_X2_undoStand
  refine s_iload_n (pc := 0) 1 dX2_undoStand_0 rfl rfl ?_
  refine s_start (pc := 1) dX2_undoStand_1 (List.mem_of_getElem? (i := 24) rfl) ?_
  refine s_iload_n (pc := 4) 2 dX2_undoStand_4 rfl rfl ?_
  refine s_grd (fun i1 => ?_)
  refine s_sti (pc := 5) i1 dX2_undoStand_5 ?_
  refine s_isub (pc := 6) dX2_undoStand_6 ?_
  refine s_istore (pc := 7) dX2_undoStand_7 (nlt rfl) rfl (L' := [some (.ref (gh (xG X) + a0)), some (.int p1), some (.int p2), some (.int p3), some (.int (p1 - (stV p2.toNatClampNeg))), none, none, none, none, none]) rfl ?_
  refine s_bv (fun x2 : Int32 => [some (.ref (gh (xG X) + a0)), some (.int p1), some (.int p2), some (.int p3), some (.int x2), none, none, none, none, none]) (fun x2 => ?_) rfl
  refine s_iconst (pc := 9) 1 dX2_undoStand_9 kc_1 ?_
  refine s_istore (pc := 10) dX2_undoStand_10 (nlt rfl) rfl (L' := [some (.ref (gh (xG X) + a0)), some (.int p1), some (.int p2), some (.int p3), some (.int x2), some (.int 1), none, none, none, none]) rfl ?_
  refine s_iload_n (pc := 12) 2 dX2_undoStand_12 rfl rfl ?_
  refine s_iconst (pc := 13) 1 dX2_undoStand_13 kc_1 ?_
  refine s_isub (pc := 14) dX2_undoStand_14 ?_
  refine s_istore (pc := 15) dX2_undoStand_15 (nlt rfl) rfl (L' := [some (.ref (gh (xG X) + a0)), some (.int p1), some (.int p2), some (.int p3), some (.int x2), some (.int 1), some (.int (p2 - 1)), none, none, none]) rfl ?_
  refine s_bv (fun x3 : Int32 => [some (.ref (gh (xG X) + a0)), some (.int p1), some (.int p2), some (.int p3), some (.int x2), some (.int 1), some (.int x3), none, none, none]) (fun x3 => ?_) rfl
  refine s_drop (L' := [some (.ref (gh (xG X) + a0)), some (.int p1), some (.int p2), some (.int p3), some (.int x2), some (.int 1), some (.int x3), none, none, none]) ?_ (And.intro rfl (And.intro rfl (And.intro rfl (And.intro rfl (And.intro rfl (And.intro rfl (And.intro rfl trivial)))))))
  refine s_loop1 M (fun s4 : Mem × Int32 × Int32 × Int32 => s4.1) (fun s4 : Mem × Int32 × Int32 × Int32 => [some (.ref (gh (xG X) + a0)), some (.int p1), some (.int p2), some (.int p3), some (.int s4.2.1), some (.int s4.2.2.1), some (.int s4.2.2.2), none, none, none]) (fun x10 : Mem => x10) 163 (fun x10 : Mem => [none, none, none, none, none, none, none, none, none, none]) (fun x10 hx11 => ?_) (fun T6 R8 hT7 hR9 s4 hs5 => ?_) (M, x2, 1, x3) Le.rf
  · show S0 X _ x10 163 [none, none, none, none, none, none, none, none, none, none] [] _
    exact s_vret rfl dX2_undoStand_163
  · show S0 X _ s4.1 17 [some (.ref (gh (xG X) + a0)), some (.int p1), some (.int p2), some (.int p3), some (.int s4.2.1), some (.int s4.2.2.1), some (.int s4.2.2.2), none, none, none] [] _
    refine s_iload (pc := 17) dX2_undoStand_17 rfl ?_
    refine s_iflt (pc := 19) 163 dX2_undoStand_19 rfl ?_ ?_
    · exact s_drop (hR9 s4.1 hs5) trivial
    · refine s_iload (pc := 22) dX2_undoStand_22 rfl ?_
      refine s_bipush (pc := 24) 6 dX2_undoStand_24 kb_6 ?_
      refine s_irem (pc := 26) dX2_undoStand_26 (by decide) ?_
      refine s_istore (pc := 27) dX2_undoStand_27 (nlt rfl) rfl (L' := [some (.ref (gh (xG X) + a0)), some (.int p1), some (.int p2), some (.int p3), some (.int s4.2.1), some (.int s4.2.2.1), some (.int s4.2.2.2), some (.int (ir s4.2.1 6)), none, none]) rfl ?_
      refine s_bv (fun x12 : Int32 => [some (.ref (gh (xG X) + a0)), some (.int p1), some (.int p2), some (.int p3), some (.int s4.2.1), some (.int s4.2.2.1), some (.int s4.2.2.2), some (.int x12), none, none]) (fun x12 => ?_) rfl
      refine s_iconst (pc := 29) 0 dX2_undoStand_29 kc_0 ?_
      refine s_istore (pc := 30) dX2_undoStand_30 (nlt rfl) rfl (L' := [some (.ref (gh (xG X) + a0)), some (.int p1), some (.int p2), some (.int p3), some (.int s4.2.1), some (.int s4.2.2.1), some (.int s4.2.2.2), some (.int x12), some (.int 0), none]) rfl ?_
      refine s_drop (L' := [some (.ref (gh (xG X) + a0)), some (.int p1), some (.int p2), some (.int p3), some (.int s4.2.1), some (.int s4.2.2.1), some (.int s4.2.2.2), some (.int x12), some (.int 0), none]) ?_ (And.intro rfl (And.intro rfl (And.intro rfl (And.intro rfl (And.intro rfl (And.intro rfl (And.intro rfl (And.intro rfl (And.intro rfl trivial)))))))))
      refine s_loop1 s4.1 (fun s13 : Mem × Int32 => s13.1) (fun s13 : Mem × Int32 => [some (.ref (gh (xG X) + a0)), some (.int p1), some (.int p2), some (.int p3), some (.int s4.2.1), some (.int s4.2.2.1), some (.int s4.2.2.2), some (.int x12), some (.int s13.2), none]) (fun x19 : Mem => x19) 143 (fun x19 : Mem => [some (.ref (gh (xG X) + a0)), some (.int p1), some (.int p2), some (.int p3), some (.int s4.2.1), some (.int s4.2.2.1), some (.int s4.2.2.2), none, none, none]) (fun x19 hx20 => ?_) (fun T15 R17 hT16 hR18 s13 hs14 => ?_) (s4.1, 0) Le.rf
      · show S0 X _ x19 143 [some (.ref (gh (xG X) + a0)), some (.int p1), some (.int p2), some (.int p3), some (.int s4.2.1), some (.int s4.2.2.1), some (.int s4.2.2.2), none, none, none] [] _
        refine s_iload (pc := 143) dX2_undoStand_143 rfl ?_
        refine s_bipush (pc := 145) 6 dX2_undoStand_145 kb_6 ?_
        refine s_idiv (pc := 147) dX2_undoStand_147 (by decide) ?_
        refine s_istore (pc := 148) dX2_undoStand_148 (nlt rfl) rfl (L' := [some (.ref (gh (xG X) + a0)), some (.int p1), some (.int p2), some (.int p3), some (.int (s4.2.1 / 6)), some (.int s4.2.2.1), some (.int s4.2.2.2), none, none, none]) rfl ?_
        refine s_bv (fun x49 : Int32 => [some (.ref (gh (xG X) + a0)), some (.int p1), some (.int p2), some (.int p3), some (.int x49), some (.int s4.2.2.1), some (.int s4.2.2.2), none, none, none]) (fun x49 => ?_) rfl
        refine s_iload (pc := 150) dX2_undoStand_150 rfl ?_
        refine s_bipush (pc := 152) 6 dX2_undoStand_152 kb_6 ?_
        refine s_imul (pc := 154) dX2_undoStand_154 ?_
        refine s_istore (pc := 155) dX2_undoStand_155 (nlt rfl) rfl (L' := [some (.ref (gh (xG X) + a0)), some (.int p1), some (.int p2), some (.int p3), some (.int x49), some (.int (s4.2.2.1 * 6)), some (.int s4.2.2.2), none, none, none]) rfl ?_
        refine s_bv (fun x50 : Int32 => [some (.ref (gh (xG X) + a0)), some (.int p1), some (.int p2), some (.int p3), some (.int x49), some (.int x50), some (.int s4.2.2.2), none, none, none]) (fun x50 => ?_) rfl
        refine s_iinc (pc := 157) dX2_undoStand_157 rfl (v := s4.2.2.2 + (-1)) (congrArg (fun z : Int32 => s4.2.2.2 + z) kc_m1) (nlt rfl) rfl (L' := [some (.ref (gh (xG X) + a0)), some (.int p1), some (.int p2), some (.int p3), some (.int x49), some (.int x50), some (.int (s4.2.2.2 + (-1))), none, none, none]) rfl ?_
        refine s_bv (fun x51 : Int32 => [some (.ref (gh (xG X) + a0)), some (.int p1), some (.int p2), some (.int p3), some (.int x49), some (.int x50), some (.int x51), none, none, none]) (fun x51 => ?_) rfl
        refine s_goto (pc := 160) 17 dX2_undoStand_160 rfl ?_
        exact s_drop (hT7 (x19, x49, x50, x51) (hs5.tr hx20)) (And.intro rfl (And.intro rfl (And.intro rfl (And.intro rfl (And.intro rfl (And.intro rfl (And.intro rfl trivial)))))))
      · show S0 X _ s13.1 32 [some (.ref (gh (xG X) + a0)), some (.int p1), some (.int p2), some (.int p3), some (.int s4.2.1), some (.int s4.2.2.1), some (.int s4.2.2.2), some (.int x12), some (.int s13.2), none] [] _
        refine s_iload (pc := 32) dX2_undoStand_32 rfl ?_
        refine s_bipush (pc := 34) 6 dX2_undoStand_34 kb_6 ?_
        refine s_icge (pc := 36) 143 dX2_undoStand_36 rfl ?_ ?_
        · exact s_drop (hR18 s13.1 hs14) (And.intro rfl (And.intro rfl (And.intro rfl (And.intro rfl (And.intro rfl (And.intro rfl (And.intro rfl trivial)))))))
        · refine s_aload_n (pc := 39) 0 dX2_undoStand_39 rfl rfl ?_
          refine s_grd (fun o21 => ?_)
          refine s_geti (pc := 40) F_2 10 rfl o21 dX2_undoStand_40 kf_X2_39 ?_
          refine s_iload (pc := 43) dX2_undoStand_43 rfl ?_
          refine s_ishr (pc := 45) dX2_undoStand_45 ?_
          refine s_iconst (pc := 46) 1 dX2_undoStand_46 kc_1 ?_
          refine s_iand (pc := 47) dX2_undoStand_47 ?_
          refine s_iconst (pc := 48) 1 dX2_undoStand_48 kc_1 ?_
          refine s_icne (pc := 49) 143 dX2_undoStand_49 rfl ?_ ?_
          · exact s_drop (hR18 s13.1 hs14) (And.intro rfl (And.intro rfl (And.intro rfl (And.intro rfl (And.intro rfl (And.intro rfl (And.intro rfl trivial)))))))
          · refine s_iload_n (pc := 52) 1 dX2_undoStand_52 rfl rfl ?_
            refine s_iload (pc := 53) dX2_undoStand_53 rfl ?_
            refine s_iload (pc := 55) dX2_undoStand_55 rfl ?_
            refine s_isub (pc := 57) dX2_undoStand_57 ?_
            refine s_iload (pc := 58) dX2_undoStand_58 rfl ?_
            refine s_imul (pc := 60) dX2_undoStand_60 ?_
            refine s_iadd (pc := 61) dX2_undoStand_61 ?_
            refine s_istore (pc := 62) dX2_undoStand_62 (nlt rfl) rfl (L' := [some (.ref (gh (xG X) + a0)), some (.int p1), some (.int p2), some (.int p3), some (.int s4.2.1), some (.int s4.2.2.1), some (.int s4.2.2.2), some (.int x12), some (.int s13.2), some (.int (p1 + ((s13.2 - x12) * s4.2.2.1)))]) rfl ?_
            refine s_bv (fun x22 : Int32 => [some (.ref (gh (xG X) + a0)), some (.int p1), some (.int p2), some (.int p3), some (.int s4.2.1), some (.int s4.2.2.1), some (.int s4.2.2.2), some (.int x12), some (.int s13.2), some (.int x22)]) (fun x22 => ?_) rfl
            refine s_aload_n (pc := 64) 0 dX2_undoStand_64 rfl rfl ?_
            refine s_geto (pc := 65) F_2 0 rfl o21 dX2_undoStand_65 kf_X2_18 ?_
            refine s_rvB (fun r23 => ?_)
            refine s_grd (fun o24 => ?_)
            refine s_getoN (pc := 68) F_10 2 rfl o24 dX2_undoStand_68 (List.mem_of_getElem? (i := 2) rfl) ?_
            refine s_rvB (fun r25 => ?_)
            refine s_iload (pc := 71) dX2_undoStand_71 rfl ?_
            refine s_grd (fun o26 => ?_)
            refine s_grd (fun i27 => ?_)
            refine s_iald (pc := 73) o26 i27 dX2_undoStand_73 ?_
            refine s_iload (pc := 74) dX2_undoStand_74 rfl ?_
            refine s_join s13.1 (fun s29 : Mem => s29) 137 (fun s29 : Mem => [some (.ref (gh (xG X) + a0)), some (.int p1), some (.int p2), some (.int p3), some (.int s4.2.1), some (.int s4.2.2.1), some (.int s4.2.2.2), some (.int x12), some (.int s13.2), none]) (fun s29 : Mem => []) (fun s29 hs30 => ?_) (fun j28 hj31 => ?_)
            · show S0 X _ s29 137 [some (.ref (gh (xG X) + a0)), some (.int p1), some (.int p2), some (.int p3), some (.int s4.2.1), some (.int s4.2.2.1), some (.int s4.2.2.2), some (.int x12), some (.int s13.2), none] [] _
              have o32 := hs30.ok o21
              refine s_iinc (pc := 137) dX2_undoStand_137 rfl (v := s13.2 + 1) (congrArg (fun z : Int32 => s13.2 + z) kc_1) (nlt rfl) rfl (L' := [some (.ref (gh (xG X) + a0)), some (.int p1), some (.int p2), some (.int p3), some (.int s4.2.1), some (.int s4.2.2.1), some (.int s4.2.2.2), some (.int x12), some (.int (s13.2 + 1)), none]) rfl ?_
              refine s_bv (fun x33 : Int32 => [some (.ref (gh (xG X) + a0)), some (.int p1), some (.int p2), some (.int p3), some (.int s4.2.1), some (.int s4.2.2.1), some (.int s4.2.2.2), some (.int x12), some (.int x33), none]) (fun x33 => ?_) rfl
              refine s_goto (pc := 140) 32 dX2_undoStand_140 rfl ?_
              exact s_drop (hT16 (s29, x33) (hs14.tr hs30)) (And.intro rfl (And.intro rfl (And.intro rfl (And.intro rfl (And.intro rfl (And.intro rfl (And.intro rfl (And.intro rfl (And.intro rfl trivial)))))))))
            · refine s_icne (pc := 76) 137 dX2_undoStand_76 rfl ?_ ?_
              · exact s_drop (hj31 s13.1 Le.rf) (And.intro rfl (And.intro rfl (And.intro rfl (And.intro rfl (And.intro rfl (And.intro rfl (And.intro rfl (And.intro rfl (And.intro rfl trivial)))))))))
              · refine s_iload (pc := 79) dX2_undoStand_79 rfl ?_
                refine s_iflt (pc := 81) 137 dX2_undoStand_81 rfl ?_ ?_
                · exact s_drop (hj31 s13.1 Le.rf) (And.intro rfl (And.intro rfl (And.intro rfl (And.intro rfl (And.intro rfl (And.intro rfl (And.intro rfl (And.intro rfl (And.intro rfl trivial)))))))))
                · refine s_iload (pc := 84) dX2_undoStand_84 rfl ?_
                  refine s_sipush (pc := 86) 9331 dX2_undoStand_86 ks_9331 ?_
                  refine s_icge (pc := 89) 137 dX2_undoStand_89 rfl ?_ ?_
                  · exact s_drop (hj31 s13.1 Le.rf) (And.intro rfl (And.intro rfl (And.intro rfl (And.intro rfl (And.intro rfl (And.intro rfl (And.intro rfl (And.intro rfl (And.intro rfl trivial)))))))))
                  · refine s_aload_n (pc := 92) 0 dX2_undoStand_92 rfl rfl ?_
                    refine s_geto (pc := 93) F_2 2 rfl o21 dX2_undoStand_93 kf_X2_9 ?_
                    refine s_rvB (fun r34 => ?_)
                    refine s_iload (pc := 96) dX2_undoStand_96 rfl ?_
                    refine s_grd (fun o35 => ?_)
                    refine s_grd (fun i36 => ?_)
                    refine s_sald (pc := 98) o35 i36 dX2_undoStand_98 ?_
                    refine s_iconst (pc := 99) (-1) dX2_undoStand_99 kc_m1 ?_
                    refine s_icne (pc := 100) 137 dX2_undoStand_100 rfl ?_ ?_
                    · exact s_drop (hj31 s13.1 Le.rf) (And.intro rfl (And.intro rfl (And.intro rfl (And.intro rfl (And.intro rfl (And.intro rfl (And.intro rfl (And.intro rfl (And.intro rfl trivial)))))))))
                    · refine s_aload_n (pc := 103) 0 dX2_undoStand_103 rfl rfl ?_
                      refine s_geto (pc := 104) F_2 1 rfl o21 dX2_undoStand_104 kf_X2_22 ?_
                      refine s_rvB (fun r37 => ?_)
                      refine s_iconst (pc := 107) 4 dX2_undoStand_107 kc_4 ?_
                      refine s_iload (pc := 108) dX2_undoStand_108 rfl ?_
                      refine s_iload (pc := 110) dX2_undoStand_110 rfl ?_
                      refine s_iload_n (pc := 112) 2 dX2_undoStand_112 rfl rfl ?_
                      refine s_iload_n (pc := 113) 3 dX2_undoStand_113 rfl rfl ?_
                      refine s_iconst (pc := 114) 3 dX2_undoStand_114 kc_3 ?_
                      refine s_iload (pc := 115) dX2_undoStand_115 rfl ?_
                      refine s_imul (pc := 117) dX2_undoStand_117 ?_
                      refine s_ishr (pc := 118) dX2_undoStand_118 ?_
                      refine s_bipush (pc := 119) 7 dX2_undoStand_119 kb_7 ?_
                      refine s_iand (pc := 121) dX2_undoStand_121 ?_
                      refine s_iconst (pc := 122) 1 dX2_undoStand_122 kc_1 ?_
                      refine s_iadd (pc := 123) dX2_undoStand_123 ?_
                      refine s_grd (fun o38 => ?_)
                      refine s_bind (fun q39 hq40 => ?_)
                      have hC41 := t_X8_weightOf (l := xl X) (G := xG X) hq40
                      refine s_callV (pc := 124) (As := [.int 4, .int s13.2, .int s4.2.2.2, .int p2, .int (((sr p3 (3 * s13.2)) &&& 7) + 1)]) (st := []) (nlt rfl) (q := (RX8, TX8, 7)) rfl rfl o38 cl_X8_weightOf wi_X8_weightOf wl_X8_weightOf km_X2_97 rfl rfl (nle rfl) (nle rfl) (nle rfl) dX2_undoStand_124 hC41 ?_
                      have h42 := hC41.1 X
                      have o43 := h42.ok o21
                      show S0 X _ q39.1 127 [some (.ref (gh (xG X) + a0)), some (.int p1), some (.int p2), some (.int p3), some (.int s4.2.1), some (.int s4.2.2.1), some (.int s4.2.2.2), some (.int x12), some (.int s13.2), some (.int x22)] [.int q39.2] _
                      refine s_iconst (pc := 127) (-1) dX2_undoStand_127 kc_m1 ?_
                      refine s_iceq (pc := 128) 137 dX2_undoStand_128 rfl ?_ ?_
                      · exact s_drop (hj31 q39.1 h42) (And.intro rfl (And.intro rfl (And.intro rfl (And.intro rfl (And.intro rfl (And.intro rfl (And.intro rfl (And.intro rfl (And.intro rfl trivial)))))))))
                      · refine s_aload_n (pc := 131) 0 dX2_undoStand_131 rfl rfl ?_
                        refine s_iload (pc := 132) dX2_undoStand_132 rfl ?_
                        refine s_bind (fun q44 hq45 => ?_)
                        have hC46 := t_X2_note (l := xl X) (G := xG X) hq45
                        refine s_callV (pc := 134) (As := [.int x22]) (st := []) (nlt rfl) (q := (RX2, TX2, 11)) rfl rfl o43 cl_X2_note wi_X2_note wl_X2_note km_X2_62 rfl rfl (nle rfl) (nle rfl) (nle rfl) dX2_undoStand_134 hC46 ?_
                        have h47 := hC46.1 X
                        have o48 := h47.ok o43
                        show S0 X _ q44 137 [some (.ref (gh (xG X) + a0)), some (.int p1), some (.int p2), some (.int p3), some (.int s4.2.1), some (.int s4.2.2.1), some (.int s4.2.2.2), some (.int x12), some (.int s13.2), some (.int x22)] [] _
                        exact s_drop (hj31 q44 (h42.tr h47)) (And.intro rfl (And.intro rfl (And.intro rfl (And.intro rfl (And.intro rfl (And.intro rfl (And.intro rfl (And.intro rfl (And.intro rfl trivial)))))))))
