set_option maxRecDepth 100000 in
set_option maxHeartbeats 8000000 in
noncomputable def f_X2_undoInAndDouble (M : Mem) (a0 : Nat) (p1 : Int32) (p2 : Int32) (p3 : Int32) : Option Mem :=
  grd (vp_in p2 7) (bv (p1 - (stV p2.toNatClampNeg) : Int32) (fun x2 => bv (p2 - 1 : Int32) (fun x3 => Option.bind (loopO (σ := Mem × Int32 × Int32 × Int32 × Int32 × Int32) (ρ := Mem) (fun s4 => if s4.2.2.2.2.2 < 0 then (some (.inr s4.1)) else (bv (ir s4.2.1 6 : Int32) (fun x12 => bv (s4.2.1 / 6 : Int32) (fun x13 => grd (vp_in (p2 - 1) 7) (bv (((stV (p2 - 1).toNatClampNeg) + (x13 * s4.2.2.2.1)) + s4.2.2.1 : Int32) (fun x15 => grd (okO s4.1 2 a0) (Option.bind (mR s4.1 a0 2) (fun r17 => grd (okO s4.1 16 r17) (grd (vp_in x15 (mL s4.1 r17)) (bv (fun (s21 : Mem) => bv (s4.2.2.1 + (x12 * s4.2.2.2.1) : Int32) (fun x25 => bv (s4.2.2.2.1 * 6 : Int32) (fun x26 => bv (s4.2.2.2.2.2 + (-1) : Int32) (fun x27 => some (.inl (s21, x13, x25, x26, x12, x27)))))) (fun j20 => if (mI s4.1 r17 x15.toNatClampNeg) = (-1) then (bv (((sr p3 (3 * x12)) &&& 7) - 1 : Int32) (fun x28 => Option.bind (mR s4.1 a0 1) (fun r29 => grd (okO s4.1 8 r29) (Option.bind (f_X8_weightOf s4.1 r29 1 x12 s4.2.2.2.2.2 (p2 - 1) x28) (fun q31 => bv (fun (s37 : Mem) => Option.bind (f_X2_note s37 a0 x15) (fun q41 => j20 q41)) (fun j36 => if q31.2 = (-1) then (if s4.2.2.2.2.1 = x12 then (Option.bind (mR q31.1 a0 1) (fun r46 => grd (okO q31.1 8 r46) (Option.bind (f_X8_weightOf q31.1 r46 3 x12 s4.2.2.2.2.2 (p2 - 1) x28) (fun q48 => if q48.2 = (-1) then (j20 q48.1) else (j36 q48.1))))) else (j20 q31.1)) else (j36 q31.1))))))) else (j20 s4.1)))))))))))) (M, x2, 0, 1, (-1), x3)) (fun (x10 : Mem) => some x10))))
abbrev Y_X2_undoInAndDouble : Sta := (RX2, "undoInAndDouble", cX2_undoInAndDouble, 12, none, 5)
set_option maxRecDepth 100000 in
set_option maxHeartbeats 8000000 in
theorem t_X2_undoInAndDouble {l : Launch} {G : Gh} {M : Mem} {a0 : Nat} {p1 : Int32} {p2 : Int32} {p3 : Int32} {q : Mem} (h : f_X2_undoInAndDouble M a0 p1 p2 p3 = some q) : Ctr l G yX2_undoInAndDouble Y_X2_undoInAndDouble M [.ref (gh G + a0), .int p1, .int p2, .int p3] q (none) := by
  refine Ctr.of (Y := Y_X2_undoInAndDouble) (L := [some (.ref (gh G + a0)), some (.int p1), some (.int p2), some (.int p3), none, none, none, none, none, none, none, none]) (t := Option.bind (f_X2_undoInAndDouble M a0 p1 p2 p3) (fun q => some (q, (none : Option Value)))) (by decide) rfl rfl (nle rfl) (Lof_in 8 _ rfl) (fun X hG hl => ?_) (by rw [h]; rfl)
  subst hG
  subst hl
  unfold f_X2_undoInAndDouble
  refine s_iload_n (pc := 0) 1 dX2_undoInAndDouble_0 rfl rfl ?_
  refine s_start (pc := 1) dX2_undoInAndDouble_1 (List.mem_of_getElem? (i := 24) rfl) ?_
  refine s_iload_n (pc := 4) 2 dX2_undoInAndDouble_4 rfl rfl ?_
  refine s_grd (fun i1 => ?_)
  refine s_sti (pc := 5) i1 dX2_undoInAndDouble_5 ?_
  refine s_isub (pc := 6) dX2_undoInAndDouble_6 ?_
  refine s_istore (pc := 7) dX2_undoInAndDouble_7 (nlt rfl) rfl (L' := [some (.ref (gh (xG X) + a0)), some (.int p1), some (.int p2), some (.int p3), some (.int (p1 - (stV p2.toNatClampNeg))), none, none, none, none, none, none, none]) rfl ?_
  refine s_bv (fun x2 : Int32 => [some (.ref (gh (xG X) + a0)), some (.int p1), some (.int p2), some (.int p3), some (.int x2), none, none, none, none, none, none, none]) (fun x2 => ?_) rfl
  refine s_iconst (pc := 9) 0 dX2_undoInAndDouble_9 kc_0 ?_
  refine s_istore (pc := 10) dX2_undoInAndDouble_10 (nlt rfl) rfl (L' := [some (.ref (gh (xG X) + a0)), some (.int p1), some (.int p2), some (.int p3), some (.int x2), some (.int 0), none, none, none, none, none, none]) rfl ?_
  refine s_iconst (pc := 12) 1 dX2_undoInAndDouble_12 kc_1 ?_
  refine s_istore (pc := 13) dX2_undoInAndDouble_13 (nlt rfl) rfl (L' := [some (.ref (gh (xG X) + a0)), some (.int p1), some (.int p2), some (.int p3), some (.int x2), some (.int 0), some (.int 1), none, none, none, none, none]) rfl ?_
  refine s_iconst (pc := 15) (-1) dX2_undoInAndDouble_15 kc_m1 ?_
  refine s_istore (pc := 16) dX2_undoInAndDouble_16 (nlt rfl) rfl (L' := [some (.ref (gh (xG X) + a0)), some (.int p1), some (.int p2), some (.int p3), some (.int x2), some (.int 0), some (.int 1), some (.int (-1)), none, none, none, none]) rfl ?_
  refine s_iload_n (pc := 18) 2 dX2_undoInAndDouble_18 rfl rfl ?_
  refine s_iconst (pc := 19) 1 dX2_undoInAndDouble_19 kc_1 ?_
  refine s_isub (pc := 20) dX2_undoInAndDouble_20 ?_
  refine s_istore (pc := 21) dX2_undoInAndDouble_21 (nlt rfl) rfl (L' := [some (.ref (gh (xG X) + a0)), some (.int p1), some (.int p2), some (.int p3), some (.int x2), some (.int 0), some (.int 1), some (.int (-1)), some (.int (p2 - 1)), none, none, none]) rfl ?_
  refine s_bv (fun x3 : Int32 => [some (.ref (gh (xG X) + a0)), some (.int p1), some (.int p2), some (.int p3), some (.int x2), some (.int 0), some (.int 1), some (.int (-1)), some (.int x3), none, none, none]) (fun x3 => ?_) rfl
  refine s_drop (L' := [some (.ref (gh (xG X) + a0)), none, some (.int p2), some (.int p3), some (.int x2), some (.int 0), some (.int 1), some (.int (-1)), some (.int x3), none, none, none]) ?_ (And.intro rfl (And.intro rfl (And.intro rfl (And.intro rfl (And.intro rfl (And.intro rfl (And.intro rfl (And.intro rfl trivial))))))))
  refine s_loop1 M (fun s4 : Mem × Int32 × Int32 × Int32 × Int32 × Int32 => s4.1) (fun s4 : Mem × Int32 × Int32 × Int32 × Int32 × Int32 => [some (.ref (gh (xG X) + a0)), none, some (.int p2), some (.int p3), some (.int s4.2.1), some (.int s4.2.2.1), some (.int s4.2.2.2.1), some (.int s4.2.2.2.2.1), some (.int s4.2.2.2.2.2), none, none, none]) (fun x10 : Mem => x10) 166 (fun x10 : Mem => [none, none, none, none, none, none, none, none, none, none, none, none]) (fun x10 hx11 => ?_) (fun T6 R8 hT7 hR9 s4 hs5 => ?_) (M, x2, 0, 1, (-1), x3) Le.rf
  · show S0 X _ x10 166 [none, none, none, none, none, none, none, none, none, none, none, none] [] _
    exact s_vret rfl dX2_undoInAndDouble_166
  · show S0 X _ s4.1 23 [some (.ref (gh (xG X) + a0)), none, some (.int p2), some (.int p3), some (.int s4.2.1), some (.int s4.2.2.1), some (.int s4.2.2.2.1), some (.int s4.2.2.2.2.1), some (.int s4.2.2.2.2.2), none, none, none] [] _
    refine s_iload (pc := 23) dX2_undoInAndDouble_23 rfl ?_
    refine s_iflt (pc := 25) 166 dX2_undoInAndDouble_25 rfl ?_ ?_
    · exact s_drop (hR9 s4.1 hs5) trivial
    · refine s_iload (pc := 28) dX2_undoInAndDouble_28 rfl ?_
      refine s_bipush (pc := 30) 6 dX2_undoInAndDouble_30 kb_6 ?_
      refine s_irem (pc := 32) dX2_undoInAndDouble_32 (by decide) ?_
      refine s_istore (pc := 33) dX2_undoInAndDouble_33 (nlt rfl) rfl (L' := [some (.ref (gh (xG X) + a0)), none, some (.int p2), some (.int p3), some (.int s4.2.1), some (.int s4.2.2.1), some (.int s4.2.2.2.1), some (.int s4.2.2.2.2.1), some (.int s4.2.2.2.2.2), some (.int (ir s4.2.1 6)), none, none]) rfl ?_
      refine s_bv (fun x12 : Int32 => [some (.ref (gh (xG X) + a0)), none, some (.int p2), some (.int p3), some (.int s4.2.1), some (.int s4.2.2.1), some (.int s4.2.2.2.1), some (.int s4.2.2.2.2.1), some (.int s4.2.2.2.2.2), some (.int x12), none, none]) (fun x12 => ?_) rfl
      refine s_iload (pc := 35) dX2_undoInAndDouble_35 rfl ?_
      refine s_bipush (pc := 37) 6 dX2_undoInAndDouble_37 kb_6 ?_
      refine s_idiv (pc := 39) dX2_undoInAndDouble_39 (by decide) ?_
      refine s_istore (pc := 40) dX2_undoInAndDouble_40 (nlt rfl) rfl (L' := [some (.ref (gh (xG X) + a0)), none, some (.int p2), some (.int p3), some (.int (s4.2.1 / 6)), some (.int s4.2.2.1), some (.int s4.2.2.2.1), some (.int s4.2.2.2.2.1), some (.int s4.2.2.2.2.2), some (.int x12), none, none]) rfl ?_
      refine s_bv (fun x13 : Int32 => [some (.ref (gh (xG X) + a0)), none, some (.int p2), some (.int p3), some (.int x13), some (.int s4.2.2.1), some (.int s4.2.2.2.1), some (.int s4.2.2.2.2.1), some (.int s4.2.2.2.2.2), some (.int x12), none, none]) (fun x13 => ?_) rfl
      refine s_start (pc := 42) dX2_undoInAndDouble_42 (List.mem_of_getElem? (i := 24) rfl) ?_
      refine s_iload_n (pc := 45) 2 dX2_undoInAndDouble_45 rfl rfl ?_
      refine s_iconst (pc := 46) 1 dX2_undoInAndDouble_46 kc_1 ?_
      refine s_isub (pc := 47) dX2_undoInAndDouble_47 ?_
      refine s_grd (fun i14 => ?_)
      refine s_sti (pc := 48) i14 dX2_undoInAndDouble_48 ?_
      refine s_iload (pc := 49) dX2_undoInAndDouble_49 rfl ?_
      refine s_iload (pc := 51) dX2_undoInAndDouble_51 rfl ?_
      refine s_imul (pc := 53) dX2_undoInAndDouble_53 ?_
      refine s_iadd (pc := 54) dX2_undoInAndDouble_54 ?_
      refine s_iload (pc := 55) dX2_undoInAndDouble_55 rfl ?_
      refine s_iadd (pc := 57) dX2_undoInAndDouble_57 ?_
      refine s_istore (pc := 58) dX2_undoInAndDouble_58 (nlt rfl) rfl (L' := [some (.ref (gh (xG X) + a0)), none, some (.int p2), some (.int p3), some (.int x13), some (.int s4.2.2.1), some (.int s4.2.2.2.1), some (.int s4.2.2.2.2.1), some (.int s4.2.2.2.2.2), some (.int x12), some (.int (((stV (p2 - 1).toNatClampNeg) + (x13 * s4.2.2.2.1)) + s4.2.2.1)), none]) rfl ?_
      refine s_bv (fun x15 : Int32 => [some (.ref (gh (xG X) + a0)), none, some (.int p2), some (.int p3), some (.int x13), some (.int s4.2.2.1), some (.int s4.2.2.2.1), some (.int s4.2.2.2.2.1), some (.int s4.2.2.2.2.2), some (.int x12), some (.int x15), none]) (fun x15 => ?_) rfl
      refine s_aload_n (pc := 60) 0 dX2_undoInAndDouble_60 rfl rfl ?_
      refine s_grd (fun o16 => ?_)
      refine s_geto (pc := 61) F_2 2 rfl o16 dX2_undoInAndDouble_61 kf_X2_9 ?_
      refine s_rvB (fun r17 => ?_)
      refine s_iload (pc := 64) dX2_undoInAndDouble_64 rfl ?_
      refine s_grd (fun o18 => ?_)
      refine s_grd (fun i19 => ?_)
      refine s_sald (pc := 66) o18 i19 dX2_undoInAndDouble_66 ?_
      refine s_iconst (pc := 67) (-1) dX2_undoInAndDouble_67 kc_m1 ?_
      refine s_join s4.1 (fun s21 : Mem => s21) 139 (fun s21 : Mem => [some (.ref (gh (xG X) + a0)), none, some (.int p2), some (.int p3), some (.int x13), some (.int s4.2.2.1), some (.int s4.2.2.2.1), none, some (.int s4.2.2.2.2.2), some (.int x12), none, none]) (fun s21 : Mem => []) (fun s21 hs22 => ?_) (fun j20 hj23 => ?_)
      · show S0 X _ s21 139 [some (.ref (gh (xG X) + a0)), none, some (.int p2), some (.int p3), some (.int x13), some (.int s4.2.2.1), some (.int s4.2.2.2.1), none, some (.int s4.2.2.2.2.2), some (.int x12), none, none] [] _
        have o24 := hs22.ok o16
        refine s_iload (pc := 139) dX2_undoInAndDouble_139 rfl ?_
        refine s_iload (pc := 141) dX2_undoInAndDouble_141 rfl ?_
        refine s_iload (pc := 143) dX2_undoInAndDouble_143 rfl ?_
        refine s_imul (pc := 145) dX2_undoInAndDouble_145 ?_
        refine s_iadd (pc := 146) dX2_undoInAndDouble_146 ?_
        refine s_istore (pc := 147) dX2_undoInAndDouble_147 (nlt rfl) rfl (L' := [some (.ref (gh (xG X) + a0)), none, some (.int p2), some (.int p3), some (.int x13), some (.int (s4.2.2.1 + (x12 * s4.2.2.2.1))), some (.int s4.2.2.2.1), none, some (.int s4.2.2.2.2.2), some (.int x12), none, none]) rfl ?_
        refine s_bv (fun x25 : Int32 => [some (.ref (gh (xG X) + a0)), none, some (.int p2), some (.int p3), some (.int x13), some (.int x25), some (.int s4.2.2.2.1), none, some (.int s4.2.2.2.2.2), some (.int x12), none, none]) (fun x25 => ?_) rfl
        refine s_iload (pc := 149) dX2_undoInAndDouble_149 rfl ?_
        refine s_bipush (pc := 151) 6 dX2_undoInAndDouble_151 kb_6 ?_
        refine s_imul (pc := 153) dX2_undoInAndDouble_153 ?_
        refine s_istore (pc := 154) dX2_undoInAndDouble_154 (nlt rfl) rfl (L' := [some (.ref (gh (xG X) + a0)), none, some (.int p2), some (.int p3), some (.int x13), some (.int x25), some (.int (s4.2.2.2.1 * 6)), none, some (.int s4.2.2.2.2.2), some (.int x12), none, none]) rfl ?_
        refine s_bv (fun x26 : Int32 => [some (.ref (gh (xG X) + a0)), none, some (.int p2), some (.int p3), some (.int x13), some (.int x25), some (.int x26), none, some (.int s4.2.2.2.2.2), some (.int x12), none, none]) (fun x26 => ?_) rfl
        refine s_iload (pc := 156) dX2_undoInAndDouble_156 rfl ?_
        refine s_istore (pc := 158) dX2_undoInAndDouble_158 (nlt rfl) rfl (L' := [some (.ref (gh (xG X) + a0)), none, some (.int p2), some (.int p3), some (.int x13), some (.int x25), some (.int x26), some (.int x12), some (.int s4.2.2.2.2.2), some (.int x12), none, none]) rfl ?_
        refine s_iinc (pc := 160) dX2_undoInAndDouble_160 rfl (v := s4.2.2.2.2.2 + (-1)) (congrArg (fun z : Int32 => s4.2.2.2.2.2 + z) kc_m1) (nlt rfl) rfl (L' := [some (.ref (gh (xG X) + a0)), none, some (.int p2), some (.int p3), some (.int x13), some (.int x25), some (.int x26), some (.int x12), some (.int (s4.2.2.2.2.2 + (-1))), some (.int x12), none, none]) rfl ?_
        refine s_bv (fun x27 : Int32 => [some (.ref (gh (xG X) + a0)), none, some (.int p2), some (.int p3), some (.int x13), some (.int x25), some (.int x26), some (.int x12), some (.int x27), some (.int x12), none, none]) (fun x27 => ?_) rfl
        refine s_goto (pc := 163) 23 dX2_undoInAndDouble_163 rfl ?_
        exact s_drop (hT7 (s21, x13, x25, x26, x12, x27) (hs5.tr hs22)) (And.intro rfl (And.intro rfl (And.intro rfl (And.intro rfl (And.intro rfl (And.intro rfl (And.intro rfl (And.intro rfl trivial))))))))
      · refine s_icne (pc := 68) 139 dX2_undoInAndDouble_68 rfl ?_ ?_
        · exact s_drop (hj23 s4.1 Le.rf) (And.intro rfl (And.intro rfl (And.intro rfl (And.intro rfl (And.intro rfl (And.intro rfl (And.intro rfl (And.intro rfl trivial))))))))
        · refine s_iload_n (pc := 71) 3 dX2_undoInAndDouble_71 rfl rfl ?_
          refine s_iconst (pc := 72) 3 dX2_undoInAndDouble_72 kc_3 ?_
          refine s_iload (pc := 73) dX2_undoInAndDouble_73 rfl ?_
          refine s_imul (pc := 75) dX2_undoInAndDouble_75 ?_
          refine s_ishr (pc := 76) dX2_undoInAndDouble_76 ?_
          refine s_bipush (pc := 77) 7 dX2_undoInAndDouble_77 kb_7 ?_
          refine s_iand (pc := 79) dX2_undoInAndDouble_79 ?_
          refine s_iconst (pc := 80) 1 dX2_undoInAndDouble_80 kc_1 ?_
          refine s_isub (pc := 81) dX2_undoInAndDouble_81 ?_
          refine s_istore (pc := 82) dX2_undoInAndDouble_82 (nlt rfl) rfl (L' := [some (.ref (gh (xG X) + a0)), none, some (.int p2), some (.int p3), some (.int x13), some (.int s4.2.2.1), some (.int s4.2.2.2.1), some (.int s4.2.2.2.2.1), some (.int s4.2.2.2.2.2), some (.int x12), some (.int x15), some (.int (((sr p3 (3 * x12)) &&& 7) - 1))]) rfl ?_
          refine s_bv (fun x28 : Int32 => [some (.ref (gh (xG X) + a0)), none, some (.int p2), some (.int p3), some (.int x13), some (.int s4.2.2.1), some (.int s4.2.2.2.1), some (.int s4.2.2.2.2.1), some (.int s4.2.2.2.2.2), some (.int x12), some (.int x15), some (.int x28)]) (fun x28 => ?_) rfl
          refine s_aload_n (pc := 84) 0 dX2_undoInAndDouble_84 rfl rfl ?_
          refine s_geto (pc := 85) F_2 1 rfl o16 dX2_undoInAndDouble_85 kf_X2_22 ?_
          refine s_rvB (fun r29 => ?_)
          refine s_iconst (pc := 88) 1 dX2_undoInAndDouble_88 kc_1 ?_
          refine s_iload (pc := 89) dX2_undoInAndDouble_89 rfl ?_
          refine s_iload (pc := 91) dX2_undoInAndDouble_91 rfl ?_
          refine s_iload_n (pc := 93) 2 dX2_undoInAndDouble_93 rfl rfl ?_
          refine s_iconst (pc := 94) 1 dX2_undoInAndDouble_94 kc_1 ?_
          refine s_isub (pc := 95) dX2_undoInAndDouble_95 ?_
          refine s_iload (pc := 96) dX2_undoInAndDouble_96 rfl ?_
          refine s_grd (fun o30 => ?_)
          refine s_bind (fun q31 hq32 => ?_)
          have hC33 := t_X8_weightOf (l := xl X) (G := xG X) hq32
          refine s_callV (pc := 98) (As := [.int 1, .int x12, .int s4.2.2.2.2.2, .int (p2 - 1), .int x28]) (st := []) (nlt rfl) (q := (RX8, TX8, 7)) rfl rfl o30 cl_X8_weightOf wi_X8_weightOf wl_X8_weightOf km_X2_97 rfl rfl (nle rfl) (nle rfl) (nle rfl) dX2_undoInAndDouble_98 hC33 ?_
          have h34 := hC33.1 X
          have o35 := h34.ok o16
          show S0 X _ q31.1 101 [some (.ref (gh (xG X) + a0)), none, some (.int p2), some (.int p3), some (.int x13), some (.int s4.2.2.1), some (.int s4.2.2.2.1), some (.int s4.2.2.2.2.1), some (.int s4.2.2.2.2.2), some (.int x12), some (.int x15), some (.int x28)] [.int q31.2] _
          refine s_iconst (pc := 101) (-1) dX2_undoInAndDouble_101 kc_m1 ?_
          refine s_join q31.1 (fun s37 : Mem => s37) 133 (fun s37 : Mem => [some (.ref (gh (xG X) + a0)), none, some (.int p2), some (.int p3), some (.int x13), some (.int s4.2.2.1), some (.int s4.2.2.2.1), none, some (.int s4.2.2.2.2.2), some (.int x12), some (.int x15), none]) (fun s37 : Mem => []) (fun s37 hs38 => ?_) (fun j36 hj39 => ?_)
          · show S0 X _ s37 133 [some (.ref (gh (xG X) + a0)), none, some (.int p2), some (.int p3), some (.int x13), some (.int s4.2.2.1), some (.int s4.2.2.2.1), none, some (.int s4.2.2.2.2.2), some (.int x12), some (.int x15), none] [] _
            have o40 := hs38.ok o35
            refine s_aload_n (pc := 133) 0 dX2_undoInAndDouble_133 rfl rfl ?_
            refine s_iload (pc := 134) dX2_undoInAndDouble_134 rfl ?_
            refine s_bind (fun q41 hq42 => ?_)
            have hC43 := t_X2_note (l := xl X) (G := xG X) hq42
            refine s_callV (pc := 136) (As := [.int x15]) (st := []) (nlt rfl) (q := (RX2, TX2, 11)) rfl rfl o40 cl_X2_note wi_X2_note wl_X2_note km_X2_62 rfl rfl (nle rfl) (nle rfl) (nle rfl) dX2_undoInAndDouble_136 hC43 ?_
            have h44 := hC43.1 X
            have o45 := h44.ok o40
            show S0 X _ q41 139 [some (.ref (gh (xG X) + a0)), none, some (.int p2), some (.int p3), some (.int x13), some (.int s4.2.2.1), some (.int s4.2.2.2.1), none, some (.int s4.2.2.2.2.2), some (.int x12), some (.int x15), none] [] _
            exact s_drop (hj23 q41 (h34.tr (hs38.tr h44))) (And.intro rfl (And.intro rfl (And.intro rfl (And.intro rfl (And.intro rfl (And.intro rfl (And.intro rfl (And.intro rfl trivial))))))))
          · refine s_icne (pc := 102) 133 dX2_undoInAndDouble_102 rfl ?_ ?_
            · exact s_drop (hj39 q31.1 Le.rf) (And.intro rfl (And.intro rfl (And.intro rfl (And.intro rfl (And.intro rfl (And.intro rfl (And.intro rfl (And.intro rfl (And.intro rfl trivial)))))))))
            · refine s_iload (pc := 105) dX2_undoInAndDouble_105 rfl ?_
              refine s_iload (pc := 107) dX2_undoInAndDouble_107 rfl ?_
              refine s_icne (pc := 109) 139 dX2_undoInAndDouble_109 rfl ?_ ?_
              · exact s_drop (hj23 q31.1 h34) (And.intro rfl (And.intro rfl (And.intro rfl (And.intro rfl (And.intro rfl (And.intro rfl (And.intro rfl (And.intro rfl trivial))))))))
              · refine s_aload_n (pc := 112) 0 dX2_undoInAndDouble_112 rfl rfl ?_
                refine s_geto (pc := 113) F_2 1 rfl o35 dX2_undoInAndDouble_113 kf_X2_22 ?_
                refine s_rvB (fun r46 => ?_)
                refine s_iconst (pc := 116) 3 dX2_undoInAndDouble_116 kc_3 ?_
                refine s_iload (pc := 117) dX2_undoInAndDouble_117 rfl ?_
                refine s_iload (pc := 119) dX2_undoInAndDouble_119 rfl ?_
                refine s_iload_n (pc := 121) 2 dX2_undoInAndDouble_121 rfl rfl ?_
                refine s_iconst (pc := 122) 1 dX2_undoInAndDouble_122 kc_1 ?_
                refine s_isub (pc := 123) dX2_undoInAndDouble_123 ?_
                refine s_iload (pc := 124) dX2_undoInAndDouble_124 rfl ?_
                refine s_grd (fun o47 => ?_)
                refine s_bind (fun q48 hq49 => ?_)
                have hC50 := t_X8_weightOf (l := xl X) (G := xG X) hq49
                refine s_callV (pc := 126) (As := [.int 3, .int x12, .int s4.2.2.2.2.2, .int (p2 - 1), .int x28]) (st := []) (nlt rfl) (q := (RX8, TX8, 7)) rfl rfl o47 cl_X8_weightOf wi_X8_weightOf wl_X8_weightOf km_X2_97 rfl rfl (nle rfl) (nle rfl) (nle rfl) dX2_undoInAndDouble_126 hC50 ?_
                have h51 := hC50.1 X
                have o52 := h51.ok o35
                show S0 X _ q48.1 129 [some (.ref (gh (xG X) + a0)), none, some (.int p2), some (.int p3), some (.int x13), some (.int s4.2.2.1), some (.int s4.2.2.2.1), some (.int s4.2.2.2.2.1), some (.int s4.2.2.2.2.2), some (.int x12), some (.int x15), some (.int x28)] [.int q48.2] _
                refine s_iconst (pc := 129) (-1) dX2_undoInAndDouble_129 kc_m1 ?_
                refine s_iceq (pc := 130) 139 dX2_undoInAndDouble_130 rfl ?_ ?_
                · exact s_drop (hj23 q48.1 (h34.tr h51)) (And.intro rfl (And.intro rfl (And.intro rfl (And.intro rfl (And.intro rfl (And.intro rfl (And.intro rfl (And.intro rfl trivial))))))))
                · exact s_drop (hj39 q48.1 h51) (And.intro rfl (And.intro rfl (And.intro rfl (And.intro rfl (And.intro rfl (And.intro rfl (And.intro rfl (And.intro rfl (And.intro rfl trivial)))))))))
set_option maxRecDepth 100000 in
set_option maxHeartbeats 8000000 in
noncomputable def f_X2_undoOut (M : Mem) (a0 : Nat) (p1 : Int32) (p2 : Int32) (p3 : Int32) : Option Mem :=
  grd (vp_in p2 7) (bv (p1 - (stV p2.toNatClampNeg) : Int32) (fun x2 => Option.bind (loopO (σ := Mem × Int32 × Int32 × Int32 × Int32) (ρ := Mem) (fun s3 => if s3.2.2.2.2 < 0 then (some (.inr s3.1)) else (grd (vp_in (p2 + 1) 7) (bv (((stV (p2 + 1).toNatClampNeg) + ((s3.2.1 * 6) * s3.2.2.2.1)) + s3.2.2.1 : Int32) (fun x12 => Option.bind (loopO (σ := Mem × Int32 × Int32) (ρ := Mem) (fun s13 => if 6 ≤ s13.2.2 then (some (.inr s13.1)) else (grd (okO s13.1 2 a0) (Option.bind (mR s13.1 a0 2) (fun r22 => grd (okO s13.1 16 r22) (grd (vp_in s13.2.1 (mL s13.1 r22)) (bv (fun (s26 : Mem) => bv (s13.2.1 + s3.2.2.2.1 : Int32) (fun x30 => bv (s13.2.2 + 1 : Int32) (fun x31 => some (.inl (s26, x30, x31))))) (fun j25 => if (mI s13.1 r22 s13.2.1.toNatClampNeg) = (-1) then (Option.bind (mR s13.1 a0 1) (fun r32 => grd (okO s13.1 8 r32) (Option.bind (f_X8_weightOf s13.1 r32 0 s13.2.2 s3.2.2.2.2 (p2 + 1) (((sr p3 (3 * s13.2.2)) &&& 7) + 1)) (fun q34 => if q34.2 = (-1) then (j25 q34.1) else (Option.bind (f_X2_note q34.1 a0 s13.2.1) (fun q39 => j25 q39)))))) else (j25 s13.1)))))))) (s3.1, x12, 0)) (fun (x19 : Mem) => bv (s3.2.2.1 + ((ir s3.2.1 6) * s3.2.2.2.1) : Int32) (fun x44 => bv (s3.2.1 / 6 : Int32) (fun x45 => bv (s3.2.2.2.1 * 6 : Int32) (fun x46 => bv (s3.2.2.2.2 + (-1) : Int32) (fun x47 => some (.inl (x19, x45, x44, x46, x47))))))))))) (M, x2, 0, 1, p2)) (fun (x9 : Mem) => some x9)))
abbrev Y_X2_undoOut : Sta := (RX2, "undoOut", cX2_undoOut, 10, none, 5)
set_option maxRecDepth 100000 in
set_option maxHeartbeats 8000000 in
theorem t_X2_undoOut {l : Launch} {G : Gh} {M : Mem} {a0 : Nat} {p1 : Int32} {p2 : Int32} {p3 : Int32} {q : Mem} (h : f_X2_undoOut M a0 p1 p2 p3 = some q) : Ctr l G yX2_undoOut Y_X2_undoOut M [.ref (gh G + a0), .int p1, .int p2, .int p3] q (none) := by
  refine Ctr.of (Y := Y_X2_undoOut) (L := [some (.ref (gh G + a0)), some (.int p1), some (.int p2), some (.int p3), none, none, none, none, none, none]) (t := Option.bind (f_X2_undoOut M a0 p1 p2 p3) (fun q => some (q, (none : Option Value)))) (by decide) rfl rfl (nle rfl) (Lof_in 6 _ rfl) (fun X hG hl => ?_) (by rw [h]; rfl)
  subst hG
  subst hl
  unfold f_X2_undoOut
  refine s_iload_n (pc := 0) 1 dX2_undoOut_0 rfl rfl ?_
  refine s_start (pc := 1) dX2_undoOut_1 (List.mem_of_getElem? (i := 24) rfl) ?_
  refine s_iload_n (pc := 4) 2 dX2_undoOut_4 rfl rfl ?_
  refine s_grd (fun i1 => ?_)
  refine s_sti (pc := 5) i1 dX2_undoOut_5 ?_
  refine s_isub (pc := 6) dX2_undoOut_6 ?_
  refine s_istore (pc := 7) dX2_undoOut_7 (nlt rfl) rfl (L' := [some (.ref (gh (xG X) + a0)), some (.int p1), some (.int p2), some (.int p3), some (.int (p1 - (stV p2.toNatClampNeg))), none, none, none, none, none]) rfl ?_
  refine s_bv (fun x2 : Int32 => [some (.ref (gh (xG X) + a0)), some (.int p1), some (.int p2), some (.int p3), some (.int x2), none, none, none, none, none]) (fun x2 => ?_) rfl
  refine s_iconst (pc := 9) 0 dX2_undoOut_9 kc_0 ?_
  refine s_istore (pc := 10) dX2_undoOut_10 (nlt rfl) rfl (L' := [some (.ref (gh (xG X) + a0)), some (.int p1), some (.int p2), some (.int p3), some (.int x2), some (.int 0), none, none, none, none]) rfl ?_
  refine s_iconst (pc := 12) 1 dX2_undoOut_12 kc_1 ?_
  refine s_istore (pc := 13) dX2_undoOut_13 (nlt rfl) rfl (L' := [some (.ref (gh (xG X) + a0)), some (.int p1), some (.int p2), some (.int p3), some (.int x2), some (.int 0), some (.int 1), none, none, none]) rfl ?_
  refine s_iload_n (pc := 15) 2 dX2_undoOut_15 rfl rfl ?_
  refine s_istore (pc := 16) dX2_undoOut_16 (nlt rfl) rfl (L' := [some (.ref (gh (xG X) + a0)), some (.int p1), some (.int p2), some (.int p3), some (.int x2), some (.int 0), some (.int 1), some (.int p2), none, none]) rfl ?_
  refine s_drop (L' := [some (.ref (gh (xG X) + a0)), none, some (.int p2), some (.int p3), some (.int x2), some (.int 0), some (.int 1), some (.int p2), none, none]) ?_ (And.intro rfl (And.intro rfl (And.intro rfl (And.intro rfl (And.intro rfl (And.intro rfl (And.intro rfl trivial)))))))
  refine s_loop1 M (fun s3 : Mem × Int32 × Int32 × Int32 × Int32 => s3.1) (fun s3 : Mem × Int32 × Int32 × Int32 × Int32 => [some (.ref (gh (xG X) + a0)), none, some (.int p2), some (.int p3), some (.int s3.2.1), some (.int s3.2.2.1), some (.int s3.2.2.2.1), some (.int s3.2.2.2.2), none, none]) (fun x9 : Mem => x9) 147 (fun x9 : Mem => [none, none, none, none, none, none, none, none, none, none]) (fun x9 hx10 => ?_) (fun T5 R7 hT6 hR8 s3 hs4 => ?_) (M, x2, 0, 1, p2) Le.rf
  · show S0 X _ x9 147 [none, none, none, none, none, none, none, none, none, none] [] _
    exact s_vret rfl dX2_undoOut_147
  · show S0 X _ s3.1 18 [some (.ref (gh (xG X) + a0)), none, some (.int p2), some (.int p3), some (.int s3.2.1), some (.int s3.2.2.1), some (.int s3.2.2.2.1), some (.int s3.2.2.2.2), none, none] [] _
    refine s_iload (pc := 18) dX2_undoOut_18 rfl ?_
    refine s_iflt (pc := 20) 147 dX2_undoOut_20 rfl ?_ ?_
    · exact s_drop (hR8 s3.1 hs4) trivial
    · refine s_start (pc := 23) dX2_undoOut_23 (List.mem_of_getElem? (i := 24) rfl) ?_
      refine s_iload_n (pc := 26) 2 dX2_undoOut_26 rfl rfl ?_
      refine s_iconst (pc := 27) 1 dX2_undoOut_27 kc_1 ?_
      refine s_iadd (pc := 28) dX2_undoOut_28 ?_
      refine s_grd (fun i11 => ?_)
      refine s_sti (pc := 29) i11 dX2_undoOut_29 ?_
      refine s_iload (pc := 30) dX2_undoOut_30 rfl ?_
      refine s_bipush (pc := 32) 6 dX2_undoOut_32 kb_6 ?_
      refine s_imul (pc := 34) dX2_undoOut_34 ?_
      refine s_iload (pc := 35) dX2_undoOut_35 rfl ?_
      refine s_imul (pc := 37) dX2_undoOut_37 ?_
      refine s_iadd (pc := 38) dX2_undoOut_38 ?_
      refine s_iload (pc := 39) dX2_undoOut_39 rfl ?_
      refine s_iadd (pc := 41) dX2_undoOut_41 ?_
      refine s_istore (pc := 42) dX2_undoOut_42 (nlt rfl) rfl (L' := [some (.ref (gh (xG X) + a0)), none, some (.int p2), some (.int p3), some (.int s3.2.1), some (.int s3.2.2.1), some (.int s3.2.2.2.1), some (.int s3.2.2.2.2), some (.int (((stV (p2 + 1).toNatClampNeg) + ((s3.2.1 * 6) * s3.2.2.2.1)) + s3.2.2.1)), none]) rfl ?_
      refine s_bv (fun x12 : Int32 => [some (.ref (gh (xG X) + a0)), none, some (.int p2), some (.int p3), some (.int s3.2.1), some (.int s3.2.2.1), some (.int s3.2.2.2.1), some (.int s3.2.2.2.2), some (.int x12), none]) (fun x12 => ?_) rfl
      refine s_iconst (pc := 44) 0 dX2_undoOut_44 kc_0 ?_
      refine s_istore (pc := 45) dX2_undoOut_45 (nlt rfl) rfl (L' := [some (.ref (gh (xG X) + a0)), none, some (.int p2), some (.int p3), some (.int s3.2.1), some (.int s3.2.2.1), some (.int s3.2.2.2.1), some (.int s3.2.2.2.2), some (.int x12), some (.int 0)]) rfl ?_
      refine s_drop (L' := [some (.ref (gh (xG X) + a0)), none, some (.int p2), some (.int p3), some (.int s3.2.1), some (.int s3.2.2.1), some (.int s3.2.2.2.1), some (.int s3.2.2.2.2), some (.int x12), some (.int 0)]) ?_ (And.intro rfl (And.intro rfl (And.intro rfl (And.intro rfl (And.intro rfl (And.intro rfl (And.intro rfl (And.intro rfl (And.intro rfl trivial)))))))))
      refine s_loop1 s3.1 (fun s13 : Mem × Int32 × Int32 => s13.1) (fun s13 : Mem × Int32 × Int32 => [some (.ref (gh (xG X) + a0)), none, some (.int p2), some (.int p3), some (.int s3.2.1), some (.int s3.2.2.1), some (.int s3.2.2.2.1), some (.int s3.2.2.2.2), some (.int s13.2.1), some (.int s13.2.2)]) (fun x19 : Mem => x19) 114 (fun x19 : Mem => [some (.ref (gh (xG X) + a0)), none, some (.int p2), some (.int p3), some (.int s3.2.1), some (.int s3.2.2.1), some (.int s3.2.2.2.1), some (.int s3.2.2.2.2), none, none]) (fun x19 hx20 => ?_) (fun T15 R17 hT16 hR18 s13 hs14 => ?_) (s3.1, x12, 0) Le.rf
      · show S0 X _ x19 114 [some (.ref (gh (xG X) + a0)), none, some (.int p2), some (.int p3), some (.int s3.2.1), some (.int s3.2.2.1), some (.int s3.2.2.2.1), some (.int s3.2.2.2.2), none, none] [] _
        refine s_iload (pc := 114) dX2_undoOut_114 rfl ?_
        refine s_iload (pc := 116) dX2_undoOut_116 rfl ?_
        refine s_bipush (pc := 118) 6 dX2_undoOut_118 kb_6 ?_
        refine s_irem (pc := 120) dX2_undoOut_120 (by decide) ?_
        refine s_iload (pc := 121) dX2_undoOut_121 rfl ?_
        refine s_imul (pc := 123) dX2_undoOut_123 ?_
        refine s_iadd (pc := 124) dX2_undoOut_124 ?_
        refine s_istore (pc := 125) dX2_undoOut_125 (nlt rfl) rfl (L' := [some (.ref (gh (xG X) + a0)), none, some (.int p2), some (.int p3), some (.int s3.2.1), some (.int (s3.2.2.1 + ((ir s3.2.1 6) * s3.2.2.2.1))), some (.int s3.2.2.2.1), some (.int s3.2.2.2.2), none, none]) rfl ?_
        refine s_bv (fun x44 : Int32 => [some (.ref (gh (xG X) + a0)), none, some (.int p2), some (.int p3), some (.int s3.2.1), some (.int x44), some (.int s3.2.2.2.1), some (.int s3.2.2.2.2), none, none]) (fun x44 => ?_) rfl
        refine s_iload (pc := 127) dX2_undoOut_127 rfl ?_
        refine s_bipush (pc := 129) 6 dX2_undoOut_129 kb_6 ?_
        refine s_idiv (pc := 131) dX2_undoOut_131 (by decide) ?_
        refine s_istore (pc := 132) dX2_undoOut_132 (nlt rfl) rfl (L' := [some (.ref (gh (xG X) + a0)), none, some (.int p2), some (.int p3), some (.int (s3.2.1 / 6)), some (.int x44), some (.int s3.2.2.2.1), some (.int s3.2.2.2.2), none, none]) rfl ?_
        refine s_bv (fun x45 : Int32 => [some (.ref (gh (xG X) + a0)), none, some (.int p2), some (.int p3), some (.int x45), some (.int x44), some (.int s3.2.2.2.1), some (.int s3.2.2.2.2), none, none]) (fun x45 => ?_) rfl
        refine s_iload (pc := 134) dX2_undoOut_134 rfl ?_
        refine s_bipush (pc := 136) 6 dX2_undoOut_136 kb_6 ?_
        refine s_imul (pc := 138) dX2_undoOut_138 ?_
        refine s_istore (pc := 139) dX2_undoOut_139 (nlt rfl) rfl (L' := [some (.ref (gh (xG X) + a0)), none, some (.int p2), some (.int p3), some (.int x45), some (.int x44), some (.int (s3.2.2.2.1 * 6)), some (.int s3.2.2.2.2), none, none]) rfl ?_
        refine s_bv (fun x46 : Int32 => [some (.ref (gh (xG X) + a0)), none, some (.int p2), some (.int p3), some (.int x45), some (.int x44), some (.int x46), some (.int s3.2.2.2.2), none, none]) (fun x46 => ?_) rfl
        refine s_iinc (pc := 141) dX2_undoOut_141 rfl (v := s3.2.2.2.2 + (-1)) (congrArg (fun z : Int32 => s3.2.2.2.2 + z) kc_m1) (nlt rfl) rfl (L' := [some (.ref (gh (xG X) + a0)), none, some (.int p2), some (.int p3), some (.int x45), some (.int x44), some (.int x46), some (.int (s3.2.2.2.2 + (-1))), none, none]) rfl ?_
        refine s_bv (fun x47 : Int32 => [some (.ref (gh (xG X) + a0)), none, some (.int p2), some (.int p3), some (.int x45), some (.int x44), some (.int x46), some (.int x47), none, none]) (fun x47 => ?_) rfl
        refine s_goto (pc := 144) 18 dX2_undoOut_144 rfl ?_
        exact s_drop (hT6 (x19, x45, x44, x46, x47) (hs4.tr hx20)) (And.intro rfl (And.intro rfl (And.intro rfl (And.intro rfl (And.intro rfl (And.intro rfl (And.intro rfl trivial)))))))
      · show S0 X _ s13.1 47 [some (.ref (gh (xG X) + a0)), none, some (.int p2), some (.int p3), some (.int s3.2.1), some (.int s3.2.2.1), some (.int s3.2.2.2.1), some (.int s3.2.2.2.2), some (.int s13.2.1), some (.int s13.2.2)] [] _
        refine s_iload (pc := 47) dX2_undoOut_47 rfl ?_
        refine s_bipush (pc := 49) 6 dX2_undoOut_49 kb_6 ?_
        refine s_icge (pc := 51) 114 dX2_undoOut_51 rfl ?_ ?_
        · exact s_drop (hR18 s13.1 hs14) (And.intro rfl (And.intro rfl (And.intro rfl (And.intro rfl (And.intro rfl (And.intro rfl (And.intro rfl trivial)))))))
        · refine s_aload_n (pc := 54) 0 dX2_undoOut_54 rfl rfl ?_
          refine s_grd (fun o21 => ?_)
          refine s_geto (pc := 55) F_2 2 rfl o21 dX2_undoOut_55 kf_X2_9 ?_
          refine s_rvB (fun r22 => ?_)
          refine s_iload (pc := 58) dX2_undoOut_58 rfl ?_
          refine s_grd (fun o23 => ?_)
          refine s_grd (fun i24 => ?_)
          refine s_sald (pc := 60) o23 i24 dX2_undoOut_60 ?_
          refine s_iconst (pc := 61) (-1) dX2_undoOut_61 kc_m1 ?_
          refine s_join s13.1 (fun s26 : Mem => s26) 101 (fun s26 : Mem => [some (.ref (gh (xG X) + a0)), none, some (.int p2), some (.int p3), some (.int s3.2.1), some (.int s3.2.2.1), some (.int s3.2.2.2.1), some (.int s3.2.2.2.2), some (.int s13.2.1), some (.int s13.2.2)]) (fun s26 : Mem => []) (fun s26 hs27 => ?_) (fun j25 hj28 => ?_)
          · show S0 X _ s26 101 [some (.ref (gh (xG X) + a0)), none, some (.int p2), some (.int p3), some (.int s3.2.1), some (.int s3.2.2.1), some (.int s3.2.2.2.1), some (.int s3.2.2.2.2), some (.int s13.2.1), some (.int s13.2.2)] [] _
            have o29 := hs27.ok o21
            refine s_iload (pc := 101) dX2_undoOut_101 rfl ?_
            refine s_iload (pc := 103) dX2_undoOut_103 rfl ?_
            refine s_iadd (pc := 105) dX2_undoOut_105 ?_
            refine s_istore (pc := 106) dX2_undoOut_106 (nlt rfl) rfl (L' := [some (.ref (gh (xG X) + a0)), none, some (.int p2), some (.int p3), some (.int s3.2.1), some (.int s3.2.2.1), some (.int s3.2.2.2.1), some (.int s3.2.2.2.2), some (.int (s13.2.1 + s3.2.2.2.1)), some (.int s13.2.2)]) rfl ?_
            refine s_bv (fun x30 : Int32 => [some (.ref (gh (xG X) + a0)), none, some (.int p2), some (.int p3), some (.int s3.2.1), some (.int s3.2.2.1), some (.int s3.2.2.2.1), some (.int s3.2.2.2.2), some (.int x30), some (.int s13.2.2)]) (fun x30 => ?_) rfl
            refine s_iinc (pc := 108) dX2_undoOut_108 rfl (v := s13.2.2 + 1) (congrArg (fun z : Int32 => s13.2.2 + z) kc_1) (nlt rfl) rfl (L' := [some (.ref (gh (xG X) + a0)), none, some (.int p2), some (.int p3), some (.int s3.2.1), some (.int s3.2.2.1), some (.int s3.2.2.2.1), some (.int s3.2.2.2.2), some (.int x30), some (.int (s13.2.2 + 1))]) rfl ?_
            refine s_bv (fun x31 : Int32 => [some (.ref (gh (xG X) + a0)), none, some (.int p2), some (.int p3), some (.int s3.2.1), some (.int s3.2.2.1), some (.int s3.2.2.2.1), some (.int s3.2.2.2.2), some (.int x30), some (.int x31)]) (fun x31 => ?_) rfl
            refine s_goto (pc := 111) 47 dX2_undoOut_111 rfl ?_
            exact s_drop (hT16 (s26, x30, x31) (hs14.tr hs27)) (And.intro rfl (And.intro rfl (And.intro rfl (And.intro rfl (And.intro rfl (And.intro rfl (And.intro rfl (And.intro rfl (And.intro rfl trivial)))))))))
          · refine s_icne (pc := 62) 101 dX2_undoOut_62 rfl ?_ ?_
            · exact s_drop (hj28 s13.1 Le.rf) (And.intro rfl (And.intro rfl (And.intro rfl (And.intro rfl (And.intro rfl (And.intro rfl (And.intro rfl (And.intro rfl (And.intro rfl trivial)))))))))
            · refine s_aload_n (pc := 65) 0 dX2_undoOut_65 rfl rfl ?_
              refine s_geto (pc := 66) F_2 1 rfl o21 dX2_undoOut_66 kf_X2_22 ?_
              refine s_rvB (fun r32 => ?_)
              refine s_iconst (pc := 69) 0 dX2_undoOut_69 kc_0 ?_
              refine s_iload (pc := 70) dX2_undoOut_70 rfl ?_
              refine s_iload (pc := 72) dX2_undoOut_72 rfl ?_
              refine s_iload_n (pc := 74) 2 dX2_undoOut_74 rfl rfl ?_
              refine s_iconst (pc := 75) 1 dX2_undoOut_75 kc_1 ?_
              refine s_iadd (pc := 76) dX2_undoOut_76 ?_
              refine s_iload_n (pc := 77) 3 dX2_undoOut_77 rfl rfl ?_
              refine s_iconst (pc := 78) 3 dX2_undoOut_78 kc_3 ?_
              refine s_iload (pc := 79) dX2_undoOut_79 rfl ?_
              refine s_imul (pc := 81) dX2_undoOut_81 ?_
              refine s_ishr (pc := 82) dX2_undoOut_82 ?_
              refine s_bipush (pc := 83) 7 dX2_undoOut_83 kb_7 ?_
              refine s_iand (pc := 85) dX2_undoOut_85 ?_
              refine s_iconst (pc := 86) 1 dX2_undoOut_86 kc_1 ?_
              refine s_iadd (pc := 87) dX2_undoOut_87 ?_
              refine s_grd (fun o33 => ?_)
              refine s_bind (fun q34 hq35 => ?_)
              have hC36 := t_X8_weightOf (l := xl X) (G := xG X) hq35
              refine s_callV (pc := 88) (As := [.int 0, .int s13.2.2, .int s3.2.2.2.2, .int (p2 + 1), .int (((sr p3 (3 * s13.2.2)) &&& 7) + 1)]) (st := []) (nlt rfl) (q := (RX8, TX8, 7)) rfl rfl o33 cl_X8_weightOf wi_X8_weightOf wl_X8_weightOf km_X2_97 rfl rfl (nle rfl) (nle rfl) (nle rfl) dX2_undoOut_88 hC36 ?_
              have h37 := hC36.1 X
              have o38 := h37.ok o21
              show S0 X _ q34.1 91 [some (.ref (gh (xG X) + a0)), none, some (.int p2), some (.int p3), some (.int s3.2.1), some (.int s3.2.2.1), some (.int s3.2.2.2.1), some (.int s3.2.2.2.2), some (.int s13.2.1), some (.int s13.2.2)] [.int q34.2] _
              refine s_iconst (pc := 91) (-1) dX2_undoOut_91 kc_m1 ?_
              refine s_iceq (pc := 92) 101 dX2_undoOut_92 rfl ?_ ?_
              · exact s_drop (hj28 q34.1 h37) (And.intro rfl (And.intro rfl (And.intro rfl (And.intro rfl (And.intro rfl (And.intro rfl (And.intro rfl (And.intro rfl (And.intro rfl trivial)))))))))
              · refine s_aload_n (pc := 95) 0 dX2_undoOut_95 rfl rfl ?_
                refine s_iload (pc := 96) dX2_undoOut_96 rfl ?_
                refine s_bind (fun q39 hq40 => ?_)
                have hC41 := t_X2_note (l := xl X) (G := xG X) hq40
                refine s_callV (pc := 98) (As := [.int s13.2.1]) (st := []) (nlt rfl) (q := (RX2, TX2, 11)) rfl rfl o38 cl_X2_note wi_X2_note wl_X2_note km_X2_62 rfl rfl (nle rfl) (nle rfl) (nle rfl) dX2_undoOut_98 hC41 ?_
                have h42 := hC41.1 X
                have o43 := h42.ok o38
                show S0 X _ q39 101 [some (.ref (gh (xG X) + a0)), none, some (.int p2), some (.int p3), some (.int s3.2.1), some (.int s3.2.2.1), some (.int s3.2.2.2.1), some (.int s3.2.2.2.2), some (.int s13.2.1), some (.int s13.2.2)] [] _
                exact s_drop (hj28 q39 (h37.tr h42)) (And.intro rfl (And.intro rfl (And.intro rfl (And.intro rfl (And.intro rfl (And.intro rfl (And.intro rfl (And.intro rfl (And.intro rfl trivial)))))))))
set_option maxRecDepth 100000 in
set_option maxHeartbeats 8000000 in
noncomputable def f_X2_undoStand (M : Mem) (a0 : Nat) (p1 : Int32) (p2 : Int32) (p3 : Int32) : Option Mem :=
  grd (vp_in p2 7) (bv (p1 - (stV p2.toNatClampNeg) : Int32) (fun x2 => bv (p2 - 1 : Int32) (fun x3 => Option.bind (loopO (σ := Mem × Int32 × Int32 × Int32) (ρ := Mem) (fun s4 => if s4.2.2.2 < 0 then (some (.inr s4.1)) else (bv (ir s4.2.1 6 : Int32) (fun x12 => Option.bind (loopO (σ := Mem × Int32) (ρ := Mem) (fun s13 => if 6 ≤ s13.2 then (some (.inr s13.1)) else (grd (okO s13.1 2 a0) (if ((sr (mI s13.1 a0 10) x12) &&& 1) = 1 then (bv (p1 + ((s13.2 - x12) * s4.2.2.1) : Int32) (fun x22 => Option.bind (mR s13.1 a0 0) (fun r23 => grd (okO s13.1 10 r23) (Option.bind (mR s13.1 r23 2) (fun r25 => grd (okO s13.1 14 r25) (grd (vp_in s13.2 (mL s13.1 r25)) (bv (fun (s29 : Mem) => bv (s13.2 + 1 : Int32) (fun x33 => some (.inl (s29, x33)))) (fun j28 => if (mI s13.1 r25 s13.2.toNatClampNeg) = x12 then (Option.bind (mR s13.1 a0 2) (fun r34 => grd (okO s13.1 16 r34) (grd (vp_in x22 (mL s13.1 r34)) (if (mI s13.1 r34 x22.toNatClampNeg) = (-1) then (Option.bind (mR s13.1 a0 1) (fun r37 => grd (okO s13.1 8 r37) (Option.bind (f_X8_weightOf s13.1 r37 4 s13.2 s4.2.2.2 p2 (((sr p3 (3 * s13.2)) &&& 7) + 1)) (fun q39 => if q39.2 = (-1) then (j28 q39.1) else (Option.bind (f_X2_note q39.1 a0 x22) (fun q44 => j28 q44)))))) else (j28 s13.1))))) else (j28 s13.1))))))))) else (some (.inr s13.1))))) (s4.1, 0)) (fun (x19 : Mem) => bv (s4.2.1 / 6 : Int32) (fun x49 => bv (s4.2.2.1 * 6 : Int32) (fun x50 => bv (s4.2.2.2 + (-1) : Int32) (fun x51 => some (.inl (x19, x49, x50, x51))))))))) (M, x2, 1, x3)) (fun (x10 : Mem) => some x10))))
abbrev Y_X2_undoStand : Sta := (RX2, "undoStand", cX2_undoStand, 10, none, 5)
set_option maxRecDepth 100000 in
set_option maxHeartbeats 8000000 in
theorem t_X2_undoStand {l : Launch} {G : Gh} {M : Mem} {a0 : Nat} {p1 : Int32} {p2 : Int32} {p3 : Int32} {q : Mem} (h : f_X2_undoStand M a0 p1 p2 p3 = some q) : Ctr l G yX2_undoStand Y_X2_undoStand M [.ref (gh G + a0), .int p1, .int p2, .int p3] q (none) := by
  refine Ctr.of (Y := Y_X2_undoStand) (L := [some (.ref (gh G + a0)), some (.int p1), some (.int p2), some (.int p3), none, none, none, none, none, none]) (t := Option.bind (f_X2_undoStand M a0 p1 p2 p3) (fun q => some (q, (none : Option Value)))) (by decide) rfl rfl (nle rfl) (Lof_in 6 _ rfl) (fun X hG hl => ?_) (by rw [h]; rfl)
  subst hG
  subst hl
  unfold f_X2_undoStand
  refine s_iload_n (pc := 0) 1 dX2_undoStand_0 rfl rfl ?_
  refine s_start (pc := 1) dX2_undoStand_1 (List.mem_of_getElem? (i := 24) rfl) ?_
  refine s_iload_n (pc := 4) 2 dX2_undoStand_4 rfl rfl ?_
  refine s_grd (fun i1 => ?_)
  refine s_sti (pc := 5) i1 dX2_undoStand_5 ?_
  refine s_isub (pc := 6) dX2_undoStand_6 ?_
  refine s_istore (pc := 7) dX2_undoStand_7 (nlt rfl) rfl (L' := [some (.ref (gh (xG X) + a0)), some (.int p1), some (.int p2), some (.int p3), some (.int (p1 - (stV p2.toNatClampNeg))), none, none, none, none, none]) rfl ?_
  refine s_bv (fun x2 : Int32 => [some (.ref (gh (xG X) + a0)), some (.int p1), some (.int p2), some (.int p3), some (.int x2), none, none, none, none, none]) (fun x2 => ?_) rfl
  refine s_iconst (pc := 9) 1 dX2_undoStand_9 kc_1 ?_
  refine s_istore (pc := 10) dX2_undoStand_10 (nlt rfl) rfl (L' := [some (.ref (gh (xG X) + a0)), some (.int p1), some (.int p2), some (.int p3), some (.int x2), some (.int 1), none, none, none, none]) rfl ?_
  refine s_iload_n (pc := 12) 2 dX2_undoStand_12 rfl rfl ?_
  refine s_iconst (pc := 13) 1 dX2_undoStand_13 kc_1 ?_
  refine s_isub (pc := 14) dX2_undoStand_14 ?_
  refine s_istore (pc := 15) dX2_undoStand_15 (nlt rfl) rfl (L' := [some (.ref (gh (xG X) + a0)), some (.int p1), some (.int p2), some (.int p3), some (.int x2), some (.int 1), some (.int (p2 - 1)), none, none, none]) rfl ?_
  refine s_bv (fun x3 : Int32 => [some (.ref (gh (xG X) + a0)), some (.int p1), some (.int p2), some (.int p3), some (.int x2), some (.int 1), some (.int x3), none, none, none]) (fun x3 => ?_) rfl
  refine s_drop (L' := [some (.ref (gh (xG X) + a0)), some (.int p1), some (.int p2), some (.int p3), some (.int x2), some (.int 1), some (.int x3), none, none, none]) ?_ (And.intro rfl (And.intro rfl (And.intro rfl (And.intro rfl (And.intro rfl (And.intro rfl (And.intro rfl trivial)))))))
  refine s_loop1 M (fun s4 : Mem × Int32 × Int32 × Int32 => s4.1) (fun s4 : Mem × Int32 × Int32 × Int32 => [some (.ref (gh (xG X) + a0)), some (.int p1), some (.int p2), some (.int p3), some (.int s4.2.1), some (.int s4.2.2.1), some (.int s4.2.2.2), none, none, none]) (fun x10 : Mem => x10) 150 (fun x10 : Mem => [none, none, none, none, none, none, none, none, none, none]) (fun x10 hx11 => ?_) (fun T6 R8 hT7 hR9 s4 hs5 => ?_) (M, x2, 1, x3) Le.rf
  · show S0 X _ x10 150 [none, none, none, none, none, none, none, none, none, none] [] _
    exact s_vret rfl dX2_undoStand_150
  · show S0 X _ s4.1 17 [some (.ref (gh (xG X) + a0)), some (.int p1), some (.int p2), some (.int p3), some (.int s4.2.1), some (.int s4.2.2.1), some (.int s4.2.2.2), none, none, none] [] _
    refine s_iload (pc := 17) dX2_undoStand_17 rfl ?_
    refine s_iflt (pc := 19) 150 dX2_undoStand_19 rfl ?_ ?_
    · exact s_drop (hR9 s4.1 hs5) trivial
    · refine s_iload (pc := 22) dX2_undoStand_22 rfl ?_
      refine s_bipush (pc := 24) 6 dX2_undoStand_24 kb_6 ?_
      refine s_irem (pc := 26) dX2_undoStand_26 (by decide) ?_
      refine s_istore (pc := 27) dX2_undoStand_27 (nlt rfl) rfl (L' := [some (.ref (gh (xG X) + a0)), some (.int p1), some (.int p2), some (.int p3), some (.int s4.2.1), some (.int s4.2.2.1), some (.int s4.2.2.2), some (.int (ir s4.2.1 6)), none, none]) rfl ?_
      refine s_bv (fun x12 : Int32 => [some (.ref (gh (xG X) + a0)), some (.int p1), some (.int p2), some (.int p3), some (.int s4.2.1), some (.int s4.2.2.1), some (.int s4.2.2.2), some (.int x12), none, none]) (fun x12 => ?_) rfl
      refine s_iconst (pc := 29) 0 dX2_undoStand_29 kc_0 ?_
      refine s_istore (pc := 30) dX2_undoStand_30 (nlt rfl) rfl (L' := [some (.ref (gh (xG X) + a0)), some (.int p1), some (.int p2), some (.int p3), some (.int s4.2.1), some (.int s4.2.2.1), some (.int s4.2.2.2), some (.int x12), some (.int 0), none]) rfl ?_
      refine s_drop (L' := [some (.ref (gh (xG X) + a0)), some (.int p1), some (.int p2), some (.int p3), some (.int s4.2.1), some (.int s4.2.2.1), some (.int s4.2.2.2), some (.int x12), some (.int 0), none]) ?_ (And.intro rfl (And.intro rfl (And.intro rfl (And.intro rfl (And.intro rfl (And.intro rfl (And.intro rfl (And.intro rfl (And.intro rfl trivial)))))))))
      refine s_loop1 s4.1 (fun s13 : Mem × Int32 => s13.1) (fun s13 : Mem × Int32 => [some (.ref (gh (xG X) + a0)), some (.int p1), some (.int p2), some (.int p3), some (.int s4.2.1), some (.int s4.2.2.1), some (.int s4.2.2.2), some (.int x12), some (.int s13.2), none]) (fun x19 : Mem => x19) 130 (fun x19 : Mem => [some (.ref (gh (xG X) + a0)), some (.int p1), some (.int p2), some (.int p3), some (.int s4.2.1), some (.int s4.2.2.1), some (.int s4.2.2.2), none, none, none]) (fun x19 hx20 => ?_) (fun T15 R17 hT16 hR18 s13 hs14 => ?_) (s4.1, 0) Le.rf
      · show S0 X _ x19 130 [some (.ref (gh (xG X) + a0)), some (.int p1), some (.int p2), some (.int p3), some (.int s4.2.1), some (.int s4.2.2.1), some (.int s4.2.2.2), none, none, none] [] _
        refine s_iload (pc := 130) dX2_undoStand_130 rfl ?_
        refine s_bipush (pc := 132) 6 dX2_undoStand_132 kb_6 ?_
        refine s_idiv (pc := 134) dX2_undoStand_134 (by decide) ?_
        refine s_istore (pc := 135) dX2_undoStand_135 (nlt rfl) rfl (L' := [some (.ref (gh (xG X) + a0)), some (.int p1), some (.int p2), some (.int p3), some (.int (s4.2.1 / 6)), some (.int s4.2.2.1), some (.int s4.2.2.2), none, none, none]) rfl ?_
        refine s_bv (fun x49 : Int32 => [some (.ref (gh (xG X) + a0)), some (.int p1), some (.int p2), some (.int p3), some (.int x49), some (.int s4.2.2.1), some (.int s4.2.2.2), none, none, none]) (fun x49 => ?_) rfl
        refine s_iload (pc := 137) dX2_undoStand_137 rfl ?_
        refine s_bipush (pc := 139) 6 dX2_undoStand_139 kb_6 ?_
        refine s_imul (pc := 141) dX2_undoStand_141 ?_
        refine s_istore (pc := 142) dX2_undoStand_142 (nlt rfl) rfl (L' := [some (.ref (gh (xG X) + a0)), some (.int p1), some (.int p2), some (.int p3), some (.int x49), some (.int (s4.2.2.1 * 6)), some (.int s4.2.2.2), none, none, none]) rfl ?_
        refine s_bv (fun x50 : Int32 => [some (.ref (gh (xG X) + a0)), some (.int p1), some (.int p2), some (.int p3), some (.int x49), some (.int x50), some (.int s4.2.2.2), none, none, none]) (fun x50 => ?_) rfl
        refine s_iinc (pc := 144) dX2_undoStand_144 rfl (v := s4.2.2.2 + (-1)) (congrArg (fun z : Int32 => s4.2.2.2 + z) kc_m1) (nlt rfl) rfl (L' := [some (.ref (gh (xG X) + a0)), some (.int p1), some (.int p2), some (.int p3), some (.int x49), some (.int x50), some (.int (s4.2.2.2 + (-1))), none, none, none]) rfl ?_
        refine s_bv (fun x51 : Int32 => [some (.ref (gh (xG X) + a0)), some (.int p1), some (.int p2), some (.int p3), some (.int x49), some (.int x50), some (.int x51), none, none, none]) (fun x51 => ?_) rfl
        refine s_goto (pc := 147) 17 dX2_undoStand_147 rfl ?_
        exact s_drop (hT7 (x19, x49, x50, x51) (hs5.tr hx20)) (And.intro rfl (And.intro rfl (And.intro rfl (And.intro rfl (And.intro rfl (And.intro rfl (And.intro rfl trivial)))))))
      · show S0 X _ s13.1 32 [some (.ref (gh (xG X) + a0)), some (.int p1), some (.int p2), some (.int p3), some (.int s4.2.1), some (.int s4.2.2.1), some (.int s4.2.2.2), some (.int x12), some (.int s13.2), none] [] _
        refine s_iload (pc := 32) dX2_undoStand_32 rfl ?_
        refine s_bipush (pc := 34) 6 dX2_undoStand_34 kb_6 ?_
        refine s_icge (pc := 36) 130 dX2_undoStand_36 rfl ?_ ?_
        · exact s_drop (hR18 s13.1 hs14) (And.intro rfl (And.intro rfl (And.intro rfl (And.intro rfl (And.intro rfl (And.intro rfl (And.intro rfl trivial)))))))
        · refine s_aload_n (pc := 39) 0 dX2_undoStand_39 rfl rfl ?_
          refine s_grd (fun o21 => ?_)
          refine s_geti (pc := 40) F_2 10 rfl o21 dX2_undoStand_40 kf_X2_39 ?_
          refine s_iload (pc := 43) dX2_undoStand_43 rfl ?_
          refine s_ishr (pc := 45) dX2_undoStand_45 ?_
          refine s_iconst (pc := 46) 1 dX2_undoStand_46 kc_1 ?_
          refine s_iand (pc := 47) dX2_undoStand_47 ?_
          refine s_iconst (pc := 48) 1 dX2_undoStand_48 kc_1 ?_
          refine s_icne (pc := 49) 130 dX2_undoStand_49 rfl ?_ ?_
          · exact s_drop (hR18 s13.1 hs14) (And.intro rfl (And.intro rfl (And.intro rfl (And.intro rfl (And.intro rfl (And.intro rfl (And.intro rfl trivial)))))))
          · refine s_iload_n (pc := 52) 1 dX2_undoStand_52 rfl rfl ?_
            refine s_iload (pc := 53) dX2_undoStand_53 rfl ?_
            refine s_iload (pc := 55) dX2_undoStand_55 rfl ?_
            refine s_isub (pc := 57) dX2_undoStand_57 ?_
            refine s_iload (pc := 58) dX2_undoStand_58 rfl ?_
            refine s_imul (pc := 60) dX2_undoStand_60 ?_
            refine s_iadd (pc := 61) dX2_undoStand_61 ?_
            refine s_istore (pc := 62) dX2_undoStand_62 (nlt rfl) rfl (L' := [some (.ref (gh (xG X) + a0)), some (.int p1), some (.int p2), some (.int p3), some (.int s4.2.1), some (.int s4.2.2.1), some (.int s4.2.2.2), some (.int x12), some (.int s13.2), some (.int (p1 + ((s13.2 - x12) * s4.2.2.1)))]) rfl ?_
            refine s_bv (fun x22 : Int32 => [some (.ref (gh (xG X) + a0)), some (.int p1), some (.int p2), some (.int p3), some (.int s4.2.1), some (.int s4.2.2.1), some (.int s4.2.2.2), some (.int x12), some (.int s13.2), some (.int x22)]) (fun x22 => ?_) rfl
            refine s_aload_n (pc := 64) 0 dX2_undoStand_64 rfl rfl ?_
            refine s_geto (pc := 65) F_2 0 rfl o21 dX2_undoStand_65 kf_X2_18 ?_
            refine s_rvB (fun r23 => ?_)
            refine s_grd (fun o24 => ?_)
            refine s_getoN (pc := 68) F_10 2 rfl o24 dX2_undoStand_68 (List.mem_of_getElem? (i := 2) rfl) ?_
            refine s_rvB (fun r25 => ?_)
            refine s_iload (pc := 71) dX2_undoStand_71 rfl ?_
            refine s_grd (fun o26 => ?_)
            refine s_grd (fun i27 => ?_)
            refine s_iald (pc := 73) o26 i27 dX2_undoStand_73 ?_
            refine s_iload (pc := 74) dX2_undoStand_74 rfl ?_
            refine s_join s13.1 (fun s29 : Mem => s29) 124 (fun s29 : Mem => [some (.ref (gh (xG X) + a0)), some (.int p1), some (.int p2), some (.int p3), some (.int s4.2.1), some (.int s4.2.2.1), some (.int s4.2.2.2), some (.int x12), some (.int s13.2), none]) (fun s29 : Mem => []) (fun s29 hs30 => ?_) (fun j28 hj31 => ?_)
            · show S0 X _ s29 124 [some (.ref (gh (xG X) + a0)), some (.int p1), some (.int p2), some (.int p3), some (.int s4.2.1), some (.int s4.2.2.1), some (.int s4.2.2.2), some (.int x12), some (.int s13.2), none] [] _
              have o32 := hs30.ok o21
              refine s_iinc (pc := 124) dX2_undoStand_124 rfl (v := s13.2 + 1) (congrArg (fun z : Int32 => s13.2 + z) kc_1) (nlt rfl) rfl (L' := [some (.ref (gh (xG X) + a0)), some (.int p1), some (.int p2), some (.int p3), some (.int s4.2.1), some (.int s4.2.2.1), some (.int s4.2.2.2), some (.int x12), some (.int (s13.2 + 1)), none]) rfl ?_
              refine s_bv (fun x33 : Int32 => [some (.ref (gh (xG X) + a0)), some (.int p1), some (.int p2), some (.int p3), some (.int s4.2.1), some (.int s4.2.2.1), some (.int s4.2.2.2), some (.int x12), some (.int x33), none]) (fun x33 => ?_) rfl
              refine s_goto (pc := 127) 32 dX2_undoStand_127 rfl ?_
              exact s_drop (hT16 (s29, x33) (hs14.tr hs30)) (And.intro rfl (And.intro rfl (And.intro rfl (And.intro rfl (And.intro rfl (And.intro rfl (And.intro rfl (And.intro rfl (And.intro rfl trivial)))))))))
            · refine s_icne (pc := 76) 124 dX2_undoStand_76 rfl ?_ ?_
              · exact s_drop (hj31 s13.1 Le.rf) (And.intro rfl (And.intro rfl (And.intro rfl (And.intro rfl (And.intro rfl (And.intro rfl (And.intro rfl (And.intro rfl (And.intro rfl trivial)))))))))
              · refine s_aload_n (pc := 79) 0 dX2_undoStand_79 rfl rfl ?_
                refine s_geto (pc := 80) F_2 2 rfl o21 dX2_undoStand_80 kf_X2_9 ?_
                refine s_rvB (fun r34 => ?_)
                refine s_iload (pc := 83) dX2_undoStand_83 rfl ?_
                refine s_grd (fun o35 => ?_)
                refine s_grd (fun i36 => ?_)
                refine s_sald (pc := 85) o35 i36 dX2_undoStand_85 ?_
                refine s_iconst (pc := 86) (-1) dX2_undoStand_86 kc_m1 ?_
                refine s_icne (pc := 87) 124 dX2_undoStand_87 rfl ?_ ?_
                · exact s_drop (hj31 s13.1 Le.rf) (And.intro rfl (And.intro rfl (And.intro rfl (And.intro rfl (And.intro rfl (And.intro rfl (And.intro rfl (And.intro rfl (And.intro rfl trivial)))))))))
                · refine s_aload_n (pc := 90) 0 dX2_undoStand_90 rfl rfl ?_
                  refine s_geto (pc := 91) F_2 1 rfl o21 dX2_undoStand_91 kf_X2_22 ?_
                  refine s_rvB (fun r37 => ?_)
                  refine s_iconst (pc := 94) 4 dX2_undoStand_94 kc_4 ?_
                  refine s_iload (pc := 95) dX2_undoStand_95 rfl ?_
                  refine s_iload (pc := 97) dX2_undoStand_97 rfl ?_
                  refine s_iload_n (pc := 99) 2 dX2_undoStand_99 rfl rfl ?_
                  refine s_iload_n (pc := 100) 3 dX2_undoStand_100 rfl rfl ?_
                  refine s_iconst (pc := 101) 3 dX2_undoStand_101 kc_3 ?_
                  refine s_iload (pc := 102) dX2_undoStand_102 rfl ?_
                  refine s_imul (pc := 104) dX2_undoStand_104 ?_
                  refine s_ishr (pc := 105) dX2_undoStand_105 ?_
                  refine s_bipush (pc := 106) 7 dX2_undoStand_106 kb_7 ?_
                  refine s_iand (pc := 108) dX2_undoStand_108 ?_
                  refine s_iconst (pc := 109) 1 dX2_undoStand_109 kc_1 ?_
                  refine s_iadd (pc := 110) dX2_undoStand_110 ?_
                  refine s_grd (fun o38 => ?_)
                  refine s_bind (fun q39 hq40 => ?_)
                  have hC41 := t_X8_weightOf (l := xl X) (G := xG X) hq40
                  refine s_callV (pc := 111) (As := [.int 4, .int s13.2, .int s4.2.2.2, .int p2, .int (((sr p3 (3 * s13.2)) &&& 7) + 1)]) (st := []) (nlt rfl) (q := (RX8, TX8, 7)) rfl rfl o38 cl_X8_weightOf wi_X8_weightOf wl_X8_weightOf km_X2_97 rfl rfl (nle rfl) (nle rfl) (nle rfl) dX2_undoStand_111 hC41 ?_
                  have h42 := hC41.1 X
                  have o43 := h42.ok o21
                  show S0 X _ q39.1 114 [some (.ref (gh (xG X) + a0)), some (.int p1), some (.int p2), some (.int p3), some (.int s4.2.1), some (.int s4.2.2.1), some (.int s4.2.2.2), some (.int x12), some (.int s13.2), some (.int x22)] [.int q39.2] _
                  refine s_iconst (pc := 114) (-1) dX2_undoStand_114 kc_m1 ?_
                  refine s_iceq (pc := 115) 124 dX2_undoStand_115 rfl ?_ ?_
                  · exact s_drop (hj31 q39.1 h42) (And.intro rfl (And.intro rfl (And.intro rfl (And.intro rfl (And.intro rfl (And.intro rfl (And.intro rfl (And.intro rfl (And.intro rfl trivial)))))))))
                  · refine s_aload_n (pc := 118) 0 dX2_undoStand_118 rfl rfl ?_
                    refine s_iload (pc := 119) dX2_undoStand_119 rfl ?_
                    refine s_bind (fun q44 hq45 => ?_)
                    have hC46 := t_X2_note (l := xl X) (G := xG X) hq45
                    refine s_callV (pc := 121) (As := [.int x22]) (st := []) (nlt rfl) (q := (RX2, TX2, 11)) rfl rfl o43 cl_X2_note wi_X2_note wl_X2_note km_X2_62 rfl rfl (nle rfl) (nle rfl) (nle rfl) dX2_undoStand_121 hC46 ?_
                    have h47 := hC46.1 X
                    have o48 := h47.ok o43
                    show S0 X _ q44 124 [some (.ref (gh (xG X) + a0)), some (.int p1), some (.int p2), some (.int p3), some (.int s4.2.1), some (.int s4.2.2.1), some (.int s4.2.2.2), some (.int x12), some (.int s13.2), some (.int x22)] [] _
                    exact s_drop (hj31 q44 (h42.tr h47)) (And.intro rfl (And.intro rfl (And.intro rfl (And.intro rfl (And.intro rfl (And.intro rfl (And.intro rfl (And.intro rfl (And.intro rfl trivial)))))))))
