set_option maxRecDepth 100000 in
set_option maxHeartbeats 8000000 in
noncomputable def f_X2_spread (M : Mem) (a0 : Nat) (p1 : Int32) (p2 : Int32) : Option Mem :=
  bv (fun (s2 : Int32) => Option.bind (loopO (σ := Mem × Int32) (ρ := Mem ⊕ Mem) (fun s5 => if p2 ≤ s5.2 then (some (.inr (.inl s5.1))) else (grd (okO s5.1 2 a0) (if (mI s5.1 a0 5) ≤ (mI s5.1 a0 4) then (some (.inr (.inl s5.1))) else (if 9331 ≤ (mI s5.1 a0 4) then (some (.inr (.inl s5.1))) else (bv (fun (s19 : Unit) => Option.bind (mR s5.1 a0 3) (fun r22 => grd (okO s5.1 16 r22) (grd (vp_in (mI s5.1 a0 4) (mL s5.1 r22)) (bv (mI s5.1 r22 (mI s5.1 a0 4).toNatClampNeg : Int32) (fun x25 => bv (wI s5.1 a0 4 ((mI s5.1 a0 4) + 1)) (fun M26 => Option.bind (mR M26 a0 2) (fun r30 => grd (okO M26 16 r30) (grd (vp_in x25 (mL M26 r30)) (grd (psh (ns ((mI M26 r30 x25.toNatClampNeg) + 1))) (bv (wI M26 a0 6 (ns ((mI M26 r30 x25.toNatClampNeg) + 1))) (fun M33 => Option.bind (f_X6_lengthOf x25) (fun q38 => Option.bind (mR M33 a0 1) (fun r41 => grd (okO M33 8 r41) (Option.bind (f_X8_isFree M33 r41) (fun q43 => bv (fun (s47 : Int32) => Option.bind (f_X2_undoInAndDouble M33 a0 x25 q38 s47) (fun q50 => Option.bind (f_X2_undoSwap q50 a0 x25 q38 s47) (fun q55 => bv (fun (s61 : Mem) => bv (fun (s66 : Mem) => bv (s5.2 + 1 : Int32) (fun x70 => some (.inl (s66, x70)))) (fun j65 => if (mI s61 a0 10) = 0 then (j65 s61) else (Option.bind (f_X2_undoStand s61 a0 x25 q38 s47) (fun q71 => j65 q71)))) (fun j60 => if 5 ≤ q38 then (j60 q55) else (Option.bind (f_X2_undoOut q55 a0 x25 q38 s47) (fun q76 => j60 q76)))))) (fun j46 => if q43 = 0 then (Option.bind (f_X6_tasteOf x25) (fun q81 => j46 q81)) else (j46 0))))))))))))))))) (fun j18 => if s2 = (-1) then (j18 ()) else (Option.bind (mR s5.1 a0 2) (fun r84 => grd (okO s5.1 16 r84) (grd (vp_in s2 (mL s5.1 r84)) (if (mI s5.1 r84 s2.toNatClampNeg) = (-1) then (j18 ()) else (some (.inr (.inr s5.1))))))))))))) (M, 0)) (Sum.elim (fun (x13 : Mem) => some x13) (fun (x15 : Mem) => some x15))) (fun j1 => bv (fun (s88 : Unit) => j1 (-1)) (fun j87 => if p1 < 0 then (j87 ()) else (if 9331 ≤ p1 then (j87 ()) else (j1 p1))))
abbrev Y_X2_spread : Sta := (RX2, "spread", cX2_spread, 8, none, 6)
set_option maxRecDepth 100000 in
set_option maxHeartbeats 8000000 in
theorem t_X2_spread {l : Launch} {G : Gh} {M : Mem} {a0 : Nat} {p1 : Int32} {p2 : Int32} {q : Mem} (h : f_X2_spread M a0 p1 p2 = some q) : Ctr l G yX2_spread Y_X2_spread M [.ref (gh G + a0), .int p1, .int p2] q (none) := by
  refine Ctr.of (Y := Y_X2_spread) (L := [some (.ref (gh G + a0)), some (.int p1), some (.int p2), none, none, none, none, none]) (t := Option.bind (f_X2_spread M a0 p1 p2) (fun q => some (q, (none : Option Value)))) (by decide) rfl rfl (nle rfl) (Lof_in 5 _ rfl) (fun X hG hl => ?_) (by rw [h]; rfl)
  subst hG
  subst hl
  unfold f_X2_spread
  refine s_iload_n (pc := 0) 1 dX2_spread_0 rfl rfl ?_
  refine s_join M (fun s2 : Int32 => M) 16 (fun s2 : Int32 => [some (.ref (gh (xG X) + a0)), none, some (.int p2), none, none, none, none, none]) (fun s2 : Int32 => [.int s2]) (fun s2 hs3 => ?_) (fun j1 hj4 => ?_)
  · show S0 X _ M 16 [some (.ref (gh (xG X) + a0)), none, some (.int p2), none, none, none, none, none] [.int s2] _
    refine s_istore_n (pc := 16) 3 dX2_spread_16 rfl (nlt rfl) rfl (L' := [some (.ref (gh (xG X) + a0)), none, some (.int p2), some (.int s2), none, none, none, none]) rfl ?_
    refine s_iconst (pc := 17) 0 dX2_spread_17 kc_0 ?_
    refine s_istore (pc := 18) dX2_spread_18 (nlt rfl) rfl (L' := [some (.ref (gh (xG X) + a0)), none, some (.int p2), some (.int s2), some (.int 0), none, none, none]) rfl ?_
    refine s_drop (L' := [some (.ref (gh (xG X) + a0)), none, some (.int p2), some (.int s2), some (.int 0), none, none, none]) ?_ (And.intro rfl (And.intro rfl (And.intro rfl (And.intro rfl trivial))))
    refine s_loop2 M (fun s5 : Mem × Int32 => s5.1) (fun s5 : Mem × Int32 => [some (.ref (gh (xG X) + a0)), none, some (.int p2), some (.int s2), some (.int s5.2), none, none, none]) (fun x13 : Mem => x13) 185 (fun x13 : Mem => [none, none, none, none, none, none, none, none]) (fun x15 : Mem => x15) 62 (fun x15 : Mem => [none, none, none, none, none, none, none, none]) (fun x13 hx14 => ?_) (fun x15 hx16 => ?_) (fun T7 R9 R11 hT8 hR10 hR12 s5 hs6 => ?_) (M, 0) Le.rf
    · show S0 X _ x13 185 [none, none, none, none, none, none, none, none] [] _
      exact s_vret rfl dX2_spread_185
    · show S0 X _ x15 62 [none, none, none, none, none, none, none, none] [] _
      exact s_vret rfl dX2_spread_62
    · show S0 X _ s5.1 20 [some (.ref (gh (xG X) + a0)), none, some (.int p2), some (.int s2), some (.int s5.2), none, none, none] [] _
      refine s_iload (pc := 20) dX2_spread_20 rfl ?_
      refine s_iload_n (pc := 22) 2 dX2_spread_22 rfl rfl ?_
      refine s_icge (pc := 23) 185 dX2_spread_23 rfl ?_ ?_
      · exact s_drop (hR10 s5.1 hs6) trivial
      · refine s_aload_n (pc := 26) 0 dX2_spread_26 rfl rfl ?_
        refine s_grd (fun o17 => ?_)
        refine s_geti (pc := 27) F_2 4 rfl o17 dX2_spread_27 kf_X2_52 ?_
        refine s_aload_n (pc := 30) 0 dX2_spread_30 rfl rfl ?_
        refine s_geti (pc := 31) F_2 5 rfl o17 dX2_spread_31 kf_X2_55 ?_
        refine s_icge (pc := 34) 185 dX2_spread_34 rfl ?_ ?_
        · exact s_drop (hR10 s5.1 hs6) trivial
        · refine s_aload_n (pc := 37) 0 dX2_spread_37 rfl rfl ?_
          refine s_geti (pc := 38) F_2 4 rfl o17 dX2_spread_38 kf_X2_52 ?_
          refine s_sipush (pc := 41) 9331 dX2_spread_41 ks_9331 ?_
          refine s_icge (pc := 44) 185 dX2_spread_44 rfl ?_ ?_
          · exact s_drop (hR10 s5.1 hs6) trivial
          · refine s_iload_n (pc := 47) 3 dX2_spread_47 rfl rfl ?_
            refine s_iconst (pc := 48) (-1) dX2_spread_48 kc_m1 ?_
            refine s_join s5.1 (fun s19 : Unit => s5.1) 63 (fun s19 : Unit => [some (.ref (gh (xG X) + a0)), none, some (.int p2), some (.int s2), some (.int s5.2), none, none, none]) (fun s19 : Unit => []) (fun s19 hs20 => ?_) (fun j18 hj21 => ?_)
            · show S0 X _ s5.1 63 [some (.ref (gh (xG X) + a0)), none, some (.int p2), some (.int s2), some (.int s5.2), none, none, none] [] _
              refine s_aload_n (pc := 63) 0 dX2_spread_63 rfl rfl ?_
              refine s_geto (pc := 64) F_2 3 rfl o17 dX2_spread_64 kf_X2_15 ?_
              refine s_rvB (fun r22 => ?_)
              refine s_aload_n (pc := 67) 0 dX2_spread_67 rfl rfl ?_
              refine s_geti (pc := 68) F_2 4 rfl o17 dX2_spread_68 kf_X2_52 ?_
              refine s_grd (fun o23 => ?_)
              refine s_grd (fun i24 => ?_)
              refine s_sald (pc := 71) o23 i24 dX2_spread_71 ?_
              refine s_istore (pc := 72) dX2_spread_72 (nlt rfl) rfl (L' := [some (.ref (gh (xG X) + a0)), none, some (.int p2), some (.int s2), some (.int s5.2), some (.int (mI s5.1 r22 (mI s5.1 a0 4).toNatClampNeg)), none, none]) rfl ?_
              refine s_bv (fun x25 : Int32 => [some (.ref (gh (xG X) + a0)), none, some (.int p2), some (.int s2), some (.int s5.2), some (.int x25), none, none]) (fun x25 => ?_) rfl
              refine s_aload_n (pc := 74) 0 dX2_spread_74 rfl rfl ?_
              refine s_dup (pc := 75) dX2_spread_75 rfl ?_
              refine s_geti (pc := 76) F_2 4 rfl o17 dX2_spread_76 kf_X2_52 ?_
              refine s_iconst (pc := 79) 1 dX2_spread_79 kc_1 ?_
              refine s_iadd (pc := 80) dX2_spread_80 ?_
              refine s_puti (pc := 81) F_2 4 rfl o17 rfl rfl rfl dX2_spread_81 kf_X2_52 (fun M26 hM27 => ?_)
              have h28 := le_wI hM27
              have o29 := h28.ok o17
              refine s_aload_n (pc := 84) 0 dX2_spread_84 rfl rfl ?_
              refine s_aload_n (pc := 85) 0 dX2_spread_85 rfl rfl ?_
              refine s_geto (pc := 86) F_2 2 rfl o29 dX2_spread_86 kf_X2_9 ?_
              refine s_rvB (fun r30 => ?_)
              refine s_iload (pc := 89) dX2_spread_89 rfl ?_
              refine s_grd (fun o31 => ?_)
              refine s_grd (fun i32 => ?_)
              refine s_sald (pc := 91) o31 i32 dX2_spread_91 ?_
              refine s_iconst (pc := 92) 1 dX2_spread_92 kc_1 ?_
              refine s_iadd (pc := 93) dX2_spread_93 ?_
              refine s_i2s (pc := 94) dX2_spread_94 ?_
              refine s_grd (fun g36 => ?_)
              refine s_puti (pc := 95) F_2 6 rfl o29 rfl g36.1 g36.2 dX2_spread_95 kf_X2_58 (fun M33 hM34 => ?_)
              have h35 := le_wI hM34
              have o37 := h35.ok o29
              refine s_iload (pc := 98) dX2_spread_98 rfl ?_
              refine s_bind (fun q38 hq39 => ?_)
              have hC40 := t_X6_lengthOf (l := xl X) (G := xG X) (M := M33) hq39
              refine s_callS (pc := 100) (As := [.int x25]) (st := []) cl_X6_lengthOf wt_X6_lengthOf km_X2_66 rfl rfl (nle rfl) (nle rfl) (nle rfl) dX2_spread_100 hC40 ?_
              show S0 X _ M33 103 [some (.ref (gh (xG X) + a0)), none, some (.int p2), some (.int s2), some (.int s5.2), some (.int x25), none, none] [.int q38] _
              refine s_istore (pc := 103) dX2_spread_103 (nlt rfl) rfl (L' := [some (.ref (gh (xG X) + a0)), none, some (.int p2), some (.int s2), some (.int s5.2), some (.int x25), some (.int q38), none]) rfl ?_
              refine s_aload_n (pc := 105) 0 dX2_spread_105 rfl rfl ?_
              refine s_geto (pc := 106) F_2 1 rfl o37 dX2_spread_106 kf_X2_22 ?_
              refine s_rvB (fun r41 => ?_)
              refine s_grd (fun o42 => ?_)
              refine s_bind (fun q43 hq44 => ?_)
              have hC45 := t_X8_isFree (l := xl X) (G := xG X) hq44
              refine s_callV (pc := 109) (As := []) (st := []) (nlt rfl) (q := (RX8, TX8, 7)) rfl rfl o42 cl_X8_isFree wi_X8_isFree wl_X8_isFree km_X2_72 rfl rfl (nle rfl) (nle rfl) (nle rfl) dX2_spread_109 hC45 ?_
              show S0 X _ M33 112 [some (.ref (gh (xG X) + a0)), none, some (.int p2), some (.int s2), some (.int s5.2), some (.int x25), some (.int q38), none] [.int q43] _
              refine s_join M33 (fun s47 : Int32 => M33) 124 (fun s47 : Int32 => [some (.ref (gh (xG X) + a0)), none, some (.int p2), some (.int s2), some (.int s5.2), some (.int x25), some (.int q38), none]) (fun s47 : Int32 => [.int s47]) (fun s47 hs48 => ?_) (fun j46 hj49 => ?_)
              · show S0 X _ M33 124 [some (.ref (gh (xG X) + a0)), none, some (.int p2), some (.int s2), some (.int s5.2), some (.int x25), some (.int q38), none] [.int s47] _
                refine s_istore (pc := 124) dX2_spread_124 (nlt rfl) rfl (L' := [some (.ref (gh (xG X) + a0)), none, some (.int p2), some (.int s2), some (.int s5.2), some (.int x25), some (.int q38), some (.int s47)]) rfl ?_
                refine s_aload_n (pc := 126) 0 dX2_spread_126 rfl rfl ?_
                refine s_iload (pc := 127) dX2_spread_127 rfl ?_
                refine s_iload (pc := 129) dX2_spread_129 rfl ?_
                refine s_iload (pc := 131) dX2_spread_131 rfl ?_
                refine s_bind (fun q50 hq51 => ?_)
                have hC52 := t_X2_undoInAndDouble (l := xl X) (G := xG X) hq51
                refine s_callV (pc := 133) (As := [.int x25, .int q38, .int s47]) (st := []) (nlt rfl) (q := (RX2, TX2, 11)) rfl rfl o37 cl_X2_undoInAndDouble wi_X2_undoInAndDouble wl_X2_undoInAndDouble km_X2_81 rfl rfl (nle rfl) (nle rfl) (nle rfl) dX2_spread_133 hC52 ?_
                have h53 := hC52.1 X
                have o54 := h53.ok o37
                show S0 X _ q50 136 [some (.ref (gh (xG X) + a0)), none, some (.int p2), some (.int s2), some (.int s5.2), some (.int x25), some (.int q38), some (.int s47)] [] _
                refine s_aload_n (pc := 136) 0 dX2_spread_136 rfl rfl ?_
                refine s_iload (pc := 137) dX2_spread_137 rfl ?_
                refine s_iload (pc := 139) dX2_spread_139 rfl ?_
                refine s_iload (pc := 141) dX2_spread_141 rfl ?_
                refine s_bind (fun q55 hq56 => ?_)
                have hC57 := t_X2_undoSwap (l := xl X) (G := xG X) hq56
                refine s_callV (pc := 143) (As := [.int x25, .int q38, .int s47]) (st := []) (nlt rfl) (q := (RX2, TX2, 11)) rfl rfl o54 cl_X2_undoSwap wi_X2_undoSwap wl_X2_undoSwap km_X2_85 rfl rfl (nle rfl) (nle rfl) (nle rfl) dX2_spread_143 hC57 ?_
                have h58 := hC57.1 X
                have o59 := h58.ok o54
                show S0 X _ q55 146 [some (.ref (gh (xG X) + a0)), none, some (.int p2), some (.int s2), some (.int s5.2), some (.int x25), some (.int q38), some (.int s47)] [] _
                refine s_iload (pc := 146) dX2_spread_146 rfl ?_
                refine s_iconst (pc := 148) 5 dX2_spread_148 kc_5 ?_
                refine s_join q55 (fun s61 : Mem => s61) 162 (fun s61 : Mem => [some (.ref (gh (xG X) + a0)), none, some (.int p2), some (.int s2), some (.int s5.2), some (.int x25), some (.int q38), some (.int s47)]) (fun s61 : Mem => []) (fun s61 hs62 => ?_) (fun j60 hj63 => ?_)
                · show S0 X _ s61 162 [some (.ref (gh (xG X) + a0)), none, some (.int p2), some (.int s2), some (.int s5.2), some (.int x25), some (.int q38), some (.int s47)] [] _
                  have o64 := hs62.ok o59
                  refine s_aload_n (pc := 162) 0 dX2_spread_162 rfl rfl ?_
                  refine s_geti (pc := 163) F_2 10 rfl o64 dX2_spread_163 kf_X2_39 ?_
                  refine s_join s61 (fun s66 : Mem => s66) 179 (fun s66 : Mem => [some (.ref (gh (xG X) + a0)), none, some (.int p2), some (.int s2), some (.int s5.2), none, none, none]) (fun s66 : Mem => []) (fun s66 hs67 => ?_) (fun j65 hj68 => ?_)
                  · show S0 X _ s66 179 [some (.ref (gh (xG X) + a0)), none, some (.int p2), some (.int s2), some (.int s5.2), none, none, none] [] _
                    have o69 := hs67.ok o64
                    refine s_iinc (pc := 179) dX2_spread_179 rfl (v := s5.2 + 1) (congrArg (fun z : Int32 => s5.2 + z) kc_1) (nlt rfl) rfl (L' := [some (.ref (gh (xG X) + a0)), none, some (.int p2), some (.int s2), some (.int (s5.2 + 1)), none, none, none]) rfl ?_
                    refine s_bv (fun x70 : Int32 => [some (.ref (gh (xG X) + a0)), none, some (.int p2), some (.int s2), some (.int x70), none, none, none]) (fun x70 => ?_) rfl
                    refine s_goto (pc := 182) 20 dX2_spread_182 rfl ?_
                    exact s_drop (hT8 (s66, x70) (hs6.tr (h28.tr (h35.tr (h53.tr (h58.tr (hs62.tr hs67))))))) (And.intro rfl (And.intro rfl (And.intro rfl (And.intro rfl trivial))))
                  · refine s_ifeq (pc := 166) 179 dX2_spread_166 rfl ?_ ?_
                    · exact s_drop (hj68 s61 Le.rf) (And.intro rfl (And.intro rfl (And.intro rfl (And.intro rfl trivial))))
                    · refine s_aload_n (pc := 169) 0 dX2_spread_169 rfl rfl ?_
                      refine s_iload (pc := 170) dX2_spread_170 rfl ?_
                      refine s_iload (pc := 172) dX2_spread_172 rfl ?_
                      refine s_iload (pc := 174) dX2_spread_174 rfl ?_
                      refine s_bind (fun q71 hq72 => ?_)
                      have hC73 := t_X2_undoStand (l := xl X) (G := xG X) hq72
                      refine s_callV (pc := 176) (As := [.int x25, .int q38, .int s47]) (st := []) (nlt rfl) (q := (RX2, TX2, 11)) rfl rfl o64 cl_X2_undoStand wi_X2_undoStand wl_X2_undoStand km_X2_91 rfl rfl (nle rfl) (nle rfl) (nle rfl) dX2_spread_176 hC73 ?_
                      have h74 := hC73.1 X
                      have o75 := h74.ok o64
                      show S0 X _ q71 179 [some (.ref (gh (xG X) + a0)), none, some (.int p2), some (.int s2), some (.int s5.2), some (.int x25), some (.int q38), some (.int s47)] [] _
                      exact s_drop (hj68 q71 h74) (And.intro rfl (And.intro rfl (And.intro rfl (And.intro rfl trivial))))
                · refine s_icge (pc := 149) 162 dX2_spread_149 rfl ?_ ?_
                  · exact s_drop (hj63 q55 Le.rf) (And.intro rfl (And.intro rfl (And.intro rfl (And.intro rfl (And.intro rfl (And.intro rfl (And.intro rfl trivial)))))))
                  · refine s_aload_n (pc := 152) 0 dX2_spread_152 rfl rfl ?_
                    refine s_iload (pc := 153) dX2_spread_153 rfl ?_
                    refine s_iload (pc := 155) dX2_spread_155 rfl ?_
                    refine s_iload (pc := 157) dX2_spread_157 rfl ?_
                    refine s_bind (fun q76 hq77 => ?_)
                    have hC78 := t_X2_undoOut (l := xl X) (G := xG X) hq77
                    refine s_callV (pc := 159) (As := [.int x25, .int q38, .int s47]) (st := []) (nlt rfl) (q := (RX2, TX2, 11)) rfl rfl o59 cl_X2_undoOut wi_X2_undoOut wl_X2_undoOut km_X2_88 rfl rfl (nle rfl) (nle rfl) (nle rfl) dX2_spread_159 hC78 ?_
                    have h79 := hC78.1 X
                    have o80 := h79.ok o59
                    show S0 X _ q76 162 [some (.ref (gh (xG X) + a0)), none, some (.int p2), some (.int s2), some (.int s5.2), some (.int x25), some (.int q38), some (.int s47)] [] _
                    exact s_drop (hj63 q76 h79) (And.intro rfl (And.intro rfl (And.intro rfl (And.intro rfl (And.intro rfl (And.intro rfl (And.intro rfl trivial)))))))
              · refine s_ifeq (pc := 112) 119 dX2_spread_112 rfl ?_ ?_
                · refine s_iload (pc := 119) dX2_spread_119 rfl ?_
                  refine s_bind (fun q81 hq82 => ?_)
                  have hC83 := t_X6_tasteOf (l := xl X) (G := xG X) (M := M33) hq82
                  refine s_callS (pc := 121) (As := [.int x25]) (st := []) cl_X6_tasteOf wt_X6_tasteOf km_X2_78 rfl rfl (nle rfl) (nle rfl) (nle rfl) dX2_spread_121 hC83 ?_
                  show S0 X _ M33 124 [some (.ref (gh (xG X) + a0)), none, some (.int p2), some (.int s2), some (.int s5.2), some (.int x25), some (.int q38), none] [.int q81] _
                  exact s_drop (hj49 q81 Le.rf) (And.intro rfl (And.intro rfl (And.intro rfl (And.intro rfl (And.intro rfl (And.intro rfl trivial))))))
                · refine s_iconst (pc := 115) 0 dX2_spread_115 kc_0 ?_
                  refine s_goto (pc := 116) 124 dX2_spread_116 rfl ?_
                  exact s_drop (hj49 0 Le.rf) (And.intro rfl (And.intro rfl (And.intro rfl (And.intro rfl (And.intro rfl (And.intro rfl trivial))))))
            · refine s_iceq (pc := 49) 63 dX2_spread_49 rfl ?_ ?_
              · exact s_drop (hj21 () Le.rf) (And.intro rfl (And.intro rfl (And.intro rfl (And.intro rfl trivial))))
              · refine s_aload_n (pc := 52) 0 dX2_spread_52 rfl rfl ?_
                refine s_geto (pc := 53) F_2 2 rfl o17 dX2_spread_53 kf_X2_9 ?_
                refine s_rvB (fun r84 => ?_)
                refine s_iload_n (pc := 56) 3 dX2_spread_56 rfl rfl ?_
                refine s_grd (fun o85 => ?_)
                refine s_grd (fun i86 => ?_)
                refine s_sald (pc := 57) o85 i86 dX2_spread_57 ?_
                refine s_iconst (pc := 58) (-1) dX2_spread_58 kc_m1 ?_
                refine s_iceq (pc := 59) 63 dX2_spread_59 rfl ?_ ?_
                · exact s_drop (hj21 () Le.rf) (And.intro rfl (And.intro rfl (And.intro rfl (And.intro rfl trivial))))
                · exact s_drop (hR12 s5.1 hs6) trivial
  · refine s_join M (fun s88 : Unit => M) 15 (fun s88 : Unit => [some (.ref (gh (xG X) + a0)), none, some (.int p2), none, none, none, none, none]) (fun s88 : Unit => []) (fun s88 hs89 => ?_) (fun j87 hj90 => ?_)
    · show S0 X _ M 15 [some (.ref (gh (xG X) + a0)), none, some (.int p2), none, none, none, none, none] [] _
      refine s_iconst (pc := 15) (-1) dX2_spread_15 kc_m1 ?_
      exact s_drop (hj4 (-1) Le.rf) (And.intro rfl (And.intro rfl trivial))
    · refine s_iflt (pc := 1) 15 dX2_spread_1 rfl ?_ ?_
      · exact s_drop (hj90 () Le.rf) (And.intro rfl (And.intro rfl trivial))
      · refine s_iload_n (pc := 4) 1 dX2_spread_4 rfl rfl ?_
        refine s_sipush (pc := 5) 9331 dX2_spread_5 ks_9331 ?_
        refine s_icge (pc := 8) 15 dX2_spread_8 rfl ?_ ?_
        · exact s_drop (hj90 () Le.rf) (And.intro rfl (And.intro rfl trivial))
        · refine s_iload_n (pc := 11) 1 dX2_spread_11 rfl rfl ?_
          refine s_goto (pc := 12) 16 dX2_spread_12 rfl ?_
          exact s_drop (hj4 p1 Le.rf) (And.intro rfl (And.intro rfl trivial))
set_option maxRecDepth 100000 in
set_option maxHeartbeats 8000000 in
noncomputable def f_X7_tokenOf (M : Mem) (a0 : Nat) (p1 : Int32) (p2 : Int32) (p3 : Int32) : Option Int32 :=
  if p1 = 2 then (grd (okO M 7 a0) (Option.bind (f_X7_byteAt M a0 p2) (fun q20 => some q20))) else (if p1 = 0 then (grd (okO M 7 a0) (Option.bind (f_X7_wordOf M a0 p2 p3) (fun q16 => some q16))) else (Option.bind (loopO (σ := Int32 × Int32) (ρ := Int32) (fun s1 => if p3 ≤ s1.2 then (some (.inr s1.1)) else (grd (okO M 7 a0) (Option.bind (f_X7_byteAt M a0 s1.2) (fun q10 => bv (mmin (((s1.1 * 10) + q10) - 48) 1001 : Int32) (fun x13 => bv (s1.2 + 1 : Int32) (fun x14 => some (.inl (x13, x14)))))))) (0, p2)) (fun (x7 : Int32) => some (1000 + x7))))
abbrev Y_X7_tokenOf : Sta := (RX7, "tokenOf", cX7_tokenOf, 6, (some .int), 6)
set_option maxRecDepth 100000 in
set_option maxHeartbeats 8000000 in
theorem t_X7_tokenOf {l : Launch} {G : Gh} {M : Mem} {a0 : Nat} {p1 : Int32} {p2 : Int32} {p3 : Int32} {q : Int32} (h : f_X7_tokenOf M a0 p1 p2 p3 = some q) : Ctr l G yX7_tokenOf Y_X7_tokenOf M [.ref (gh G + a0), .int p1, .int p2, .int p3] M (some (.int q)) := by
  refine Ctr.of (Y := Y_X7_tokenOf) (L := [some (.ref (gh G + a0)), some (.int p1), some (.int p2), some (.int p3), none, none]) (t := Option.bind (f_X7_tokenOf M a0 p1 p2 p3) (fun q => some (M, some (.int q)))) (by decide) rfl rfl (nle rfl) (Lof_in 2 _ rfl) (fun X hG hl => ?_) (by rw [h]; rfl)
  subst hG
  subst hl
  unfold f_X7_tokenOf
  refine s_iload_n (pc := 0) 1 dX7_tokenOf_0 rfl rfl ?_
  refine s_iconst (pc := 1) 2 dX7_tokenOf_1 kc_2 ?_
  refine s_icne (pc := 2) 11 dX7_tokenOf_2 rfl ?_ ?_
  · refine s_iload_n (pc := 11) 1 dX7_tokenOf_11 rfl rfl ?_
    refine s_ifne (pc := 12) 22 dX7_tokenOf_12 rfl ?_ ?_
    · refine s_iconst (pc := 22) 0 dX7_tokenOf_22 kc_0 ?_
      refine s_istore (pc := 23) dX7_tokenOf_23 (nlt rfl) rfl (L' := [some (.ref (gh (xG X) + a0)), some (.int p1), some (.int p2), some (.int p3), some (.int 0), none]) rfl ?_
      refine s_iload_n (pc := 25) 2 dX7_tokenOf_25 rfl rfl ?_
      refine s_istore (pc := 26) dX7_tokenOf_26 (nlt rfl) rfl (L' := [some (.ref (gh (xG X) + a0)), some (.int p1), some (.int p2), some (.int p3), some (.int 0), some (.int p2)]) rfl ?_
      refine s_drop (L' := [some (.ref (gh (xG X) + a0)), none, none, some (.int p3), some (.int 0), some (.int p2)]) ?_ (And.intro rfl (And.intro rfl (And.intro rfl (And.intro rfl trivial))))
      refine s_loop1 M (fun s1 : Int32 × Int32 => M) (fun s1 : Int32 × Int32 => [some (.ref (gh (xG X) + a0)), none, none, some (.int p3), some (.int s1.1), some (.int s1.2)]) (fun x7 : Int32 => M) 63 (fun x7 : Int32 => [none, none, none, none, some (.int x7), none]) (fun x7 hx8 => ?_) (fun T3 R5 hT4 hR6 s1 hs2 => ?_) (0, p2) Le.rf
      · show S0 X _ M 63 [none, none, none, none, some (.int x7), none] [] _
        refine s_sipush (pc := 63) 1000 dX7_tokenOf_63 ks_1000 ?_
        refine s_iload (pc := 66) dX7_tokenOf_66 rfl ?_
        refine s_iadd (pc := 68) dX7_tokenOf_68 ?_
        exact s_iret rfl dX7_tokenOf_69
      · show S0 X _ M 28 [some (.ref (gh (xG X) + a0)), none, none, some (.int p3), some (.int s1.1), some (.int s1.2)] [] _
        refine s_iload (pc := 28) dX7_tokenOf_28 rfl ?_
        refine s_iload_n (pc := 30) 3 dX7_tokenOf_30 rfl rfl ?_
        refine s_icge (pc := 31) 63 dX7_tokenOf_31 rfl ?_ ?_
        · exact s_drop (hR6 s1.1 Le.rf) (And.intro rfl trivial)
        · refine s_iload (pc := 34) dX7_tokenOf_34 rfl ?_
          refine s_bipush (pc := 36) 10 dX7_tokenOf_36 kb_10 ?_
          refine s_imul (pc := 38) dX7_tokenOf_38 ?_
          refine s_aload_n (pc := 39) 0 dX7_tokenOf_39 rfl rfl ?_
          refine s_iload (pc := 40) dX7_tokenOf_40 rfl ?_
          refine s_grd (fun o9 => ?_)
          refine s_bind (fun q10 hq11 => ?_)
          have hC12 := t_X7_byteAt (l := xl X) (G := xG X) hq11
          refine s_callV (pc := 42) (As := [.int s1.2]) (st := [.int (s1.1 * 10)]) (nlt rfl) (q := (RX7, TX7, 10)) rfl rfl o9 cl_X7_byteAt wi_X7_byteAt wl_X7_byteAt km_X7_41 rfl rfl (nle rfl) (nle rfl) (nle rfl) dX7_tokenOf_42 hC12 ?_
          show S0 X _ M 45 [some (.ref (gh (xG X) + a0)), none, none, some (.int p3), some (.int s1.1), some (.int s1.2)] [.int q10, .int (s1.1 * 10)] _
          refine s_iadd (pc := 45) dX7_tokenOf_45 ?_
          refine s_bipush (pc := 46) 48 dX7_tokenOf_46 kb_48 ?_
          refine s_isub (pc := 48) dX7_tokenOf_48 ?_
          refine s_sipush (pc := 49) 1001 dX7_tokenOf_49 ks_1001 ?_
          refine s_mmin (pc := 52) km_X7_93 wt_J9_min_7cf53 wn_J9 wc_mmin (nle rfl) (nle rfl) dX7_tokenOf_52 ?_
          refine s_istore (pc := 55) dX7_tokenOf_55 (nlt rfl) rfl (L' := [some (.ref (gh (xG X) + a0)), none, none, some (.int p3), some (.int (mmin (((s1.1 * 10) + q10) - 48) 1001)), some (.int s1.2)]) rfl ?_
          refine s_bv (fun x13 : Int32 => [some (.ref (gh (xG X) + a0)), none, none, some (.int p3), some (.int x13), some (.int s1.2)]) (fun x13 => ?_) rfl
          refine s_iinc (pc := 57) dX7_tokenOf_57 rfl (v := s1.2 + 1) (congrArg (fun z : Int32 => s1.2 + z) kc_1) (nlt rfl) rfl (L' := [some (.ref (gh (xG X) + a0)), none, none, some (.int p3), some (.int x13), some (.int (s1.2 + 1))]) rfl ?_
          refine s_bv (fun x14 : Int32 => [some (.ref (gh (xG X) + a0)), none, none, some (.int p3), some (.int x13), some (.int x14)]) (fun x14 => ?_) rfl
          refine s_goto (pc := 60) 28 dX7_tokenOf_60 rfl ?_
          exact s_drop (hT4 (x13, x14) Le.rf) (And.intro rfl (And.intro rfl (And.intro rfl (And.intro rfl trivial))))
    · refine s_aload_n (pc := 15) 0 dX7_tokenOf_15 rfl rfl ?_
      refine s_iload_n (pc := 16) 2 dX7_tokenOf_16 rfl rfl ?_
      refine s_iload_n (pc := 17) 3 dX7_tokenOf_17 rfl rfl ?_
      refine s_grd (fun o15 => ?_)
      refine s_bind (fun q16 hq17 => ?_)
      have hC18 := t_X7_wordOf (l := xl X) (G := xG X) hq17
      refine s_callV (pc := 18) (As := [.int p2, .int p3]) (st := []) (nlt rfl) (q := (RX7, TX7, 10)) rfl rfl o15 cl_X7_wordOf wi_X7_wordOf wl_X7_wordOf km_X7_89 rfl rfl (nle rfl) (nle rfl) (nle rfl) dX7_tokenOf_18 hC18 ?_
      show S0 X _ M 21 [some (.ref (gh (xG X) + a0)), some (.int p1), some (.int p2), some (.int p3), none, none] [.int q16] _
      exact s_iret rfl dX7_tokenOf_21
  · refine s_aload_n (pc := 5) 0 dX7_tokenOf_5 rfl rfl ?_
    refine s_iload_n (pc := 6) 2 dX7_tokenOf_6 rfl rfl ?_
    refine s_grd (fun o19 => ?_)
    refine s_bind (fun q20 hq21 => ?_)
    have hC22 := t_X7_byteAt (l := xl X) (G := xG X) hq21
    refine s_callV (pc := 7) (As := [.int p2]) (st := []) (nlt rfl) (q := (RX7, TX7, 10)) rfl rfl o19 cl_X7_byteAt wi_X7_byteAt wl_X7_byteAt km_X7_41 rfl rfl (nle rfl) (nle rfl) (nle rfl) dX7_tokenOf_7 hC22 ?_
    show S0 X _ M 10 [some (.ref (gh (xG X) + a0)), some (.int p1), some (.int p2), some (.int p3), none, none] [.int q20] _
    exact s_iret rfl dX7_tokenOf_10
set_option maxRecDepth 100000 in
set_option maxHeartbeats 8000000 in
noncomputable def f_X0_work (M : Mem) (a0 : Nat) (p1 : Int32) (p2 : Int32) : Option (Mem × Int32) :=
  if p1 = (-1) then (some (M, 0)) else (if p2 < 0 then (some (M, 0)) else (if p2 ≤ 3 then (grd (okO M 0 a0) (bv (fun (s3 : Unit) => Option.bind (mR M a0 3) (fun r6 => grd (okO M 15 r6) (bv (fun (s9 : Mem) => bv (wI s9 a0 5 p1) (fun M13 => bv (wI M13 a0 6 p2) (fun M17 => Option.bind (mR M17 a0 0) (fun r21 => grd (okO M17 10 r21) (bv (wI M17 a0 7 (mI M17 r21 11)) (fun M23 => Option.bind (mR M23 a0 0) (fun r27 => grd (okO M23 10 r27) (bv (wI M23 a0 8 (mI M23 r27 13)) (fun M29 => Option.bind (mR M29 a0 1) (fun r33 => grd (okO M29 8 r33) (Option.bind (f_X8_open M29 r33 (mI M29 a0 7)) (fun q35 => Option.bind (mR q35 a0 3) (fun r40 => Option.bind (f_J7_fill_d0a16 q35 r40 0) (fun q41 => Option.bind (mR q41 a0 3) (fun r46 => grd (okO q41 15 r46) (grd (vp_in p1 (mL q41 r46)) (bv (wJ q41 r46 p1.toNatClampNeg 1000000000000) (fun M49 => Option.bind (loopO (σ := Mem × Int32) (ρ := Mem) (fun s53 => if p2 ≤ s53.2 then (some (.inr s53.1)) else (Option.bind (mR s53.1 a0 4) (fun r62 => Option.bind (f_J7_fill_d0a16 s53.1 r62 0) (fun q63 => Option.bind (loopO (σ := Mem × Int32) (ρ := Mem) (fun s68 => if 9331 ≤ s68.2 then (some (.inr s68.1)) else (Option.bind (mR s68.1 a0 3) (fun r77 => grd (okO s68.1 15 r77) (grd (vp_in s68.2 (mL s68.1 r77)) (bv (fun (s81 : Mem) => bv (s68.2 + 1 : Int32) (fun x85 => some (.inl (s81, x85)))) (fun j80 => if (lg_cmp (mJ s68.1 r77 s68.2.toNatClampNeg) 0) ≤ 0 then (j80 s68.1) else (Option.bind (mR s68.1 a0 2) (fun r86 => grd (okO s68.1 1 r86) (Option.bind (f_X1_listAll s68.1 r86 s68.2) (fun q88 => Option.bind (f_X0_handOn q88 a0 s68.2) (fun q93 => j80 q93))))))))))) (q63, 0)) (fun (x75 : Mem) => Option.bind (mR x75 a0 3) (fun r99 => Option.bind (mR x75 a0 4) (fun r100 => bv (wR x75 a0 3 (some r100)) (fun M101 => bv (wR M101 a0 4 (some r99)) (fun M105 => bv (s53.2 + 1 : Int32) (fun x109 => some (.inl (M105, x109)))))))))))) (M49, 0)) (fun (x60 : Mem) => some (x60, 1)))))))))))))))))))) (fun j8 => if (nI (mL M r6)) = 0 then (bv (nA M 15 (9331 : Int32).toNatClampNeg) (fun M110 => bv (wR M110 a0 3 (some (mn M))) (fun M115 => bv (nA M115 15 (9331 : Int32).toNatClampNeg) (fun M119 => bv (wR M119 a0 4 (some (mn M115))) (fun M124 => j8 M124))))) else (j8 M))))) (fun j2 => if (mI M a0 5) = p1 then (if (mI M a0 6) = p2 then (Option.bind (mR M a0 0) (fun r128 => grd (okO M 10 r128) (if (mI M a0 7) = (mI M r128 11) then (Option.bind (mR M a0 0) (fun r130 => grd (okO M 10 r130) (if (mI M a0 8) = (mI M r130 13) then (some (M, 1)) else (j2 ())))) else (j2 ())))) else (j2 ())) else (j2 ())))) else (some (M, 0))))
abbrev Y_X0_work : Sta := (RX0, "work", cX0_work, 5, (some .boolean), 7)
set_option maxRecDepth 100000 in
set_option maxHeartbeats 8000000 in
theorem t_X0_work {l : Launch} {G : Gh} {M : Mem} {a0 : Nat} {p1 : Int32} {p2 : Int32} {q : Mem × Int32} (h : f_X0_work M a0 p1 p2 = some q) : Ctr l G yX0_work Y_X0_work M [.ref (gh G + a0), .int p1, .int p2] q.1 (some (.int q.2)) := by
  refine Ctr.of (Y := Y_X0_work) (L := [some (.ref (gh G + a0)), some (.int p1), some (.int p2), none, none]) (t := Option.bind (f_X0_work M a0 p1 p2) (fun q => some (q.1, some (.int q.2)))) (by decide) rfl rfl (nle rfl) (Lof_in 2 _ rfl) (fun X hG hl => ?_) (by rw [h]; rfl)
  subst hG
  subst hl
  unfold f_X0_work
  refine s_iload_n (pc := 0) 1 dX0_work_0 rfl rfl ?_
  refine s_iconst (pc := 1) (-1) dX0_work_1 kc_m1 ?_
  refine s_iceq (pc := 2) 14 dX0_work_2 rfl ?_ ?_
  · refine s_iconst (pc := 14) 0 dX0_work_14 kc_0 ?_
    exact s_zret rfl rfl dX0_work_15
  · refine s_iload_n (pc := 5) 2 dX0_work_5 rfl rfl ?_
    refine s_iflt (pc := 6) 14 dX0_work_6 rfl ?_ ?_
    · refine s_iconst (pc := 14) 0 dX0_work_14 kc_0 ?_
      exact s_zret rfl rfl dX0_work_15
    · refine s_iload_n (pc := 9) 2 dX0_work_9 rfl rfl ?_
      refine s_iconst (pc := 10) 3 dX0_work_10 kc_3 ?_
      refine s_icle (pc := 11) 16 dX0_work_11 rfl ?_ ?_
      · refine s_aload_n (pc := 16) 0 dX0_work_16 rfl rfl ?_
        refine s_grd (fun o1 => ?_)
        refine s_geti (pc := 17) F_0 5 rfl o1 dX0_work_17 kf_X0_34 ?_
        refine s_iload_n (pc := 20) 1 dX0_work_20 rfl rfl ?_
        refine s_join M (fun s3 : Unit => M) 62 (fun s3 : Unit => [some (.ref (gh (xG X) + a0)), some (.int p1), some (.int p2), none, none]) (fun s3 : Unit => []) (fun s3 hs4 => ?_) (fun j2 hj5 => ?_)
        · show S0 X _ M 62 [some (.ref (gh (xG X) + a0)), some (.int p1), some (.int p2), none, none] [] _
          refine s_aload_n (pc := 62) 0 dX0_work_62 rfl rfl ?_
          refine s_geto (pc := 63) F_0 3 rfl o1 dX0_work_63 kf_X0_9 ?_
          refine s_rvB (fun r6 => ?_)
          refine s_grd (fun o7 => ?_)
          refine s_alen (pc := 66) 15 (And.intro (nle rfl) (nle rfl)) o7 dX0_work_66 ?_
          refine s_join M (fun s9 : Mem => s9) 88 (fun s9 : Mem => [some (.ref (gh (xG X) + a0)), some (.int p1), some (.int p2), none, none]) (fun s9 : Mem => []) (fun s9 hs10 => ?_) (fun j8 hj11 => ?_)
          · show S0 X _ s9 88 [some (.ref (gh (xG X) + a0)), some (.int p1), some (.int p2), none, none] [] _
            have o12 := hs10.ok o1
            refine s_aload_n (pc := 88) 0 dX0_work_88 rfl rfl ?_
            refine s_iload_n (pc := 89) 1 dX0_work_89 rfl rfl ?_
            refine s_puti (pc := 90) F_0 5 rfl o12 rfl rfl rfl dX0_work_90 kf_X0_34 (fun M13 hM14 => ?_)
            have h15 := le_wI hM14
            have o16 := h15.ok o12
            refine s_aload_n (pc := 93) 0 dX0_work_93 rfl rfl ?_
            refine s_iload_n (pc := 94) 2 dX0_work_94 rfl rfl ?_
            refine s_puti (pc := 95) F_0 6 rfl o16 rfl rfl rfl dX0_work_95 kf_X0_18 (fun M17 hM18 => ?_)
            have h19 := le_wI hM18
            have o20 := h19.ok o16
            refine s_aload_n (pc := 98) 0 dX0_work_98 rfl rfl ?_
            refine s_aload_n (pc := 99) 0 dX0_work_99 rfl rfl ?_
            refine s_geto (pc := 100) F_0 0 rfl o20 dX0_work_100 kf_X0_22 ?_
            refine s_rvB (fun r21 => ?_)
            refine s_grd (fun o22 => ?_)
            refine s_getiN (pc := 103) F_10 11 rfl o22 dX0_work_103 (List.mem_of_getElem? (i := 12) rfl) ?_
            refine s_puti (pc := 106) F_0 7 rfl o20 rfl rfl rfl dX0_work_106 kf_X0_37 (fun M23 hM24 => ?_)
            have h25 := le_wI hM24
            have o26 := h25.ok o20
            refine s_aload_n (pc := 109) 0 dX0_work_109 rfl rfl ?_
            refine s_aload_n (pc := 110) 0 dX0_work_110 rfl rfl ?_
            refine s_geto (pc := 111) F_0 0 rfl o26 dX0_work_111 kf_X0_22 ?_
            refine s_rvB (fun r27 => ?_)
            refine s_grd (fun o28 => ?_)
            refine s_getiN (pc := 114) F_10 13 rfl o28 dX0_work_114 (List.mem_of_getElem? (i := 19) rfl) ?_
            refine s_puti (pc := 117) F_0 8 rfl o26 rfl rfl rfl dX0_work_117 kf_X0_43 (fun M29 hM30 => ?_)
            have h31 := le_wI hM30
            have o32 := h31.ok o26
            refine s_aload_n (pc := 120) 0 dX0_work_120 rfl rfl ?_
            refine s_geto (pc := 121) F_0 1 rfl o32 dX0_work_121 kf_X0_26 ?_
            refine s_rvB (fun r33 => ?_)
            refine s_aload_n (pc := 124) 0 dX0_work_124 rfl rfl ?_
            refine s_geti (pc := 125) F_0 7 rfl o32 dX0_work_125 kf_X0_37 ?_
            refine s_grd (fun o34 => ?_)
            refine s_bind (fun q35 hq36 => ?_)
            have hC37 := t_X8_open (l := xl X) (G := xG X) hq36
            refine s_callV (pc := 128) (As := [.int (mI M29 a0 7)]) (st := []) (nlt rfl) (q := (RX8, TX8, 7)) rfl rfl o34 cl_X8_open wi_X8_open wl_X8_open km_X0_47 rfl rfl (nle rfl) (nle rfl) (nle rfl) dX0_work_128 hC37 ?_
            have h38 := hC37.1 X
            have o39 := h38.ok o32
            show S0 X _ q35 131 [some (.ref (gh (xG X) + a0)), some (.int p1), some (.int p2), none, none] [] _
            refine s_aload_n (pc := 131) 0 dX0_work_131 rfl rfl ?_
            refine s_geto (pc := 132) F_0 3 rfl o39 dX0_work_132 kf_X0_9 ?_
            refine s_rvB (fun r40 => ?_)
            refine s_lconst (pc := 135) 0 dX0_work_135 kl_0 ?_
            refine s_bind (fun q41 hq42 => ?_)
            have hC43 := t_J7_fill_d0a16 (l := xl X) (G := xG X) hq42
            refine s_callS (pc := 136) (As := [.ref (gh (xG X) + r40), .long 0]) (st := []) cl_J7_fill_d0a16 wt_J7_fill_d0a16 km_X0_53 rfl rfl (nle rfl) (nle rfl) (nle rfl) dX0_work_136 hC43 ?_
            have h44 := hC43.1 X
            have o45 := h44.ok o39
            show S0 X _ q41 139 [some (.ref (gh (xG X) + a0)), some (.int p1), some (.int p2), none, none] [] _
            refine s_aload_n (pc := 139) 0 dX0_work_139 rfl rfl ?_
            refine s_geto (pc := 140) F_0 3 rfl o45 dX0_work_140 kf_X0_9 ?_
            refine s_rvB (fun r46 => ?_)
            refine s_iload_n (pc := 143) 1 dX0_work_143 rfl rfl ?_
            refine s_ldc2 (pc := 144) dX0_work_144 kl_X0_59 ?_
            refine s_grd (fun o47 => ?_)
            refine s_grd (fun i48 => ?_)
            refine s_last (pc := 147) o47 i48 dX0_work_147 (fun M49 hM50 => ?_)
            have h51 := le_wJ hM50
            have o52 := h51.ok o45
            refine s_iconst (pc := 148) 0 dX0_work_148 kc_0 ?_
            refine s_istore_n (pc := 149) 3 dX0_work_149 rfl (nlt rfl) rfl (L' := [some (.ref (gh (xG X) + a0)), some (.int p1), some (.int p2), some (.int 0), none]) rfl ?_
            refine s_drop (L' := [some (.ref (gh (xG X) + a0)), none, some (.int p2), some (.int 0), none]) ?_ (And.intro rfl (And.intro rfl (And.intro rfl trivial)))
            refine s_loop1 M49 (fun s53 : Mem × Int32 => s53.1) (fun s53 : Mem × Int32 => [some (.ref (gh (xG X) + a0)), none, some (.int p2), some (.int s53.2), none]) (fun x60 : Mem => x60) 233 (fun x60 : Mem => [none, none, none, none, none]) (fun x60 hx61 => ?_) (fun T55 R57 hT56 hR58 s53 hs54 => ?_) (M49, 0) Le.rf
            · show S0 X _ x60 233 [none, none, none, none, none] [] _
              refine s_iconst (pc := 233) 1 dX0_work_233 kc_1 ?_
              exact s_zret rfl rfl dX0_work_234
            · show S0 X _ s53.1 150 [some (.ref (gh (xG X) + a0)), none, some (.int p2), some (.int s53.2), none] [] _
              have o59 := hs54.ok o52
              refine s_iload_n (pc := 150) 3 dX0_work_150 rfl rfl ?_
              refine s_iload_n (pc := 151) 2 dX0_work_151 rfl rfl ?_
              refine s_icge (pc := 152) 233 dX0_work_152 rfl ?_ ?_
              · exact s_drop (hR58 s53.1 hs54) trivial
              · refine s_aload_n (pc := 155) 0 dX0_work_155 rfl rfl ?_
                refine s_geto (pc := 156) F_0 4 rfl o59 dX0_work_156 kf_X0_15 ?_
                refine s_rvB (fun r62 => ?_)
                refine s_lconst (pc := 159) 0 dX0_work_159 kl_0 ?_
                refine s_bind (fun q63 hq64 => ?_)
                have hC65 := t_J7_fill_d0a16 (l := xl X) (G := xG X) hq64
                refine s_callS (pc := 160) (As := [.ref (gh (xG X) + r62), .long 0]) (st := []) cl_J7_fill_d0a16 wt_J7_fill_d0a16 km_X0_53 rfl rfl (nle rfl) (nle rfl) (nle rfl) dX0_work_160 hC65 ?_
                have h66 := hC65.1 X
                have o67 := h66.ok o59
                show S0 X _ q63 163 [some (.ref (gh (xG X) + a0)), none, some (.int p2), some (.int s53.2), none] [] _
                refine s_iconst (pc := 163) 0 dX0_work_163 kc_0 ?_
                refine s_istore (pc := 164) dX0_work_164 (nlt rfl) rfl (L' := [some (.ref (gh (xG X) + a0)), none, some (.int p2), some (.int s53.2), some (.int 0)]) rfl ?_
                refine s_drop (L' := [some (.ref (gh (xG X) + a0)), none, some (.int p2), some (.int s53.2), some (.int 0)]) ?_ (And.intro rfl (And.intro rfl (And.intro rfl (And.intro rfl trivial))))
                refine s_loop1 q63 (fun s68 : Mem × Int32 => s68.1) (fun s68 : Mem × Int32 => [some (.ref (gh (xG X) + a0)), none, some (.int p2), some (.int s53.2), some (.int s68.2)]) (fun x75 : Mem => x75) 207 (fun x75 : Mem => [some (.ref (gh (xG X) + a0)), none, some (.int p2), some (.int s53.2), none]) (fun x75 hx76 => ?_) (fun T70 R72 hT71 hR73 s68 hs69 => ?_) (q63, 0) Le.rf
                · show S0 X _ x75 207 [some (.ref (gh (xG X) + a0)), none, some (.int p2), some (.int s53.2), none] [] _
                  have o98 := hx76.ok o67
                  refine s_aload_n (pc := 207) 0 dX0_work_207 rfl rfl ?_
                  refine s_geto (pc := 208) F_0 3 rfl o98 dX0_work_208 kf_X0_9 ?_
                  refine s_rvB (fun r99 => ?_)
                  refine s_astore (pc := 211) dX0_work_211 (nlt rfl) rfl (L' := [some (.ref (gh (xG X) + a0)), none, some (.int p2), some (.int s53.2), some (.ref (gh (xG X) + r99))]) rfl ?_
                  refine s_aload_n (pc := 213) 0 dX0_work_213 rfl rfl ?_
                  refine s_aload_n (pc := 214) 0 dX0_work_214 rfl rfl ?_
                  refine s_geto (pc := 215) F_0 4 rfl o98 dX0_work_215 kf_X0_15 ?_
                  refine s_rvB (fun r100 => ?_)
                  refine s_putr (pc := 218) F_0 3 rfl o98 rfl rfl rfl dX0_work_218 kf_X0_9 (fun M101 hM102 => ?_)
                  have h103 := le_wR hM102
                  have o104 := h103.ok o98
                  refine s_aload_n (pc := 221) 0 dX0_work_221 rfl rfl ?_
                  refine s_aload (pc := 222) dX0_work_222 rfl ?_
                  refine s_putr (pc := 224) F_0 4 rfl o104 rfl rfl rfl dX0_work_224 kf_X0_15 (fun M105 hM106 => ?_)
                  have h107 := le_wR hM106
                  have o108 := h107.ok o104
                  refine s_iinc (pc := 227) dX0_work_227 rfl (v := s53.2 + 1) (congrArg (fun z : Int32 => s53.2 + z) kc_1) (nlt rfl) rfl (L' := [some (.ref (gh (xG X) + a0)), none, some (.int p2), some (.int (s53.2 + 1)), some (.ref (gh (xG X) + r99))]) rfl ?_
                  refine s_bv (fun x109 : Int32 => [some (.ref (gh (xG X) + a0)), none, some (.int p2), some (.int x109), some (.ref (gh (xG X) + r99))]) (fun x109 => ?_) rfl
                  refine s_goto (pc := 230) 150 dX0_work_230 rfl ?_
                  exact s_drop (hT56 (M105, x109) (hs54.tr (h66.tr (hx76.tr (h103.tr h107))))) (And.intro rfl (And.intro rfl (And.intro rfl trivial)))
                · show S0 X _ s68.1 166 [some (.ref (gh (xG X) + a0)), none, some (.int p2), some (.int s53.2), some (.int s68.2)] [] _
                  have o74 := hs69.ok o67
                  refine s_iload (pc := 166) dX0_work_166 rfl ?_
                  refine s_sipush (pc := 168) 9331 dX0_work_168 ks_9331 ?_
                  refine s_icge (pc := 171) 207 dX0_work_171 rfl ?_ ?_
                  · exact s_drop (hR73 s68.1 hs69) (And.intro rfl (And.intro rfl (And.intro rfl trivial)))
                  · refine s_aload_n (pc := 174) 0 dX0_work_174 rfl rfl ?_
                    refine s_geto (pc := 175) F_0 3 rfl o74 dX0_work_175 kf_X0_9 ?_
                    refine s_rvB (fun r77 => ?_)
                    refine s_iload (pc := 178) dX0_work_178 rfl ?_
                    refine s_grd (fun o78 => ?_)
                    refine s_grd (fun i79 => ?_)
                    refine s_lald (pc := 180) o78 i79 dX0_work_180 ?_
                    refine s_lconst (pc := 181) 0 dX0_work_181 kl_0 ?_
                    refine s_lcmp (pc := 182) dX0_work_182 ?_
                    refine s_join s68.1 (fun s81 : Mem => s81) 201 (fun s81 : Mem => [some (.ref (gh (xG X) + a0)), none, some (.int p2), some (.int s53.2), some (.int s68.2)]) (fun s81 : Mem => []) (fun s81 hs82 => ?_) (fun j80 hj83 => ?_)
                    · show S0 X _ s81 201 [some (.ref (gh (xG X) + a0)), none, some (.int p2), some (.int s53.2), some (.int s68.2)] [] _
                      have o84 := hs82.ok o74
                      refine s_iinc (pc := 201) dX0_work_201 rfl (v := s68.2 + 1) (congrArg (fun z : Int32 => s68.2 + z) kc_1) (nlt rfl) rfl (L' := [some (.ref (gh (xG X) + a0)), none, some (.int p2), some (.int s53.2), some (.int (s68.2 + 1))]) rfl ?_
                      refine s_bv (fun x85 : Int32 => [some (.ref (gh (xG X) + a0)), none, some (.int p2), some (.int s53.2), some (.int x85)]) (fun x85 => ?_) rfl
                      refine s_goto (pc := 204) 166 dX0_work_204 rfl ?_
                      exact s_drop (hT71 (s81, x85) (hs69.tr hs82)) (And.intro rfl (And.intro rfl (And.intro rfl (And.intro rfl trivial))))
                    · refine s_ifle (pc := 183) 201 dX0_work_183 rfl ?_ ?_
                      · exact s_drop (hj83 s68.1 Le.rf) (And.intro rfl (And.intro rfl (And.intro rfl (And.intro rfl trivial))))
                      · refine s_aload_n (pc := 186) 0 dX0_work_186 rfl rfl ?_
                        refine s_geto (pc := 187) F_0 2 rfl o74 dX0_work_187 kf_X0_30 ?_
                        refine s_rvB (fun r86 => ?_)
                        refine s_iload (pc := 190) dX0_work_190 rfl ?_
                        refine s_grd (fun o87 => ?_)
                        refine s_bind (fun q88 hq89 => ?_)
                        have hC90 := t_X1_listAll (l := xl X) (G := xG X) hq89
                        refine s_callV (pc := 192) (As := [.int s68.2]) (st := []) (nlt rfl) (q := (RX1, TX1, 8)) rfl rfl o87 cl_X1_listAll wi_X1_listAll wl_X1_listAll km_X0_61 rfl rfl (nle rfl) (nle rfl) (nle rfl) dX0_work_192 hC90 ?_
                        have h91 := hC90.1 X
                        have o92 := h91.ok o74
                        show S0 X _ q88 195 [some (.ref (gh (xG X) + a0)), none, some (.int p2), some (.int s53.2), some (.int s68.2)] [] _
                        refine s_aload_n (pc := 195) 0 dX0_work_195 rfl rfl ?_
                        refine s_iload (pc := 196) dX0_work_196 rfl ?_
                        refine s_bind (fun q93 hq94 => ?_)
                        have hC95 := t_X0_handOn (l := xl X) (G := xG X) hq94
                        refine s_callV (pc := 198) (As := [.int s68.2]) (st := []) (nlt rfl) (q := (RX0, TX0, 9)) rfl rfl o92 cl_X0_handOn wi_X0_handOn wl_X0_handOn km_X0_66 rfl rfl (nle rfl) (nle rfl) (nle rfl) dX0_work_198 hC95 ?_
                        have h96 := hC95.1 X
                        have o97 := h96.ok o92
                        show S0 X _ q93 201 [some (.ref (gh (xG X) + a0)), none, some (.int p2), some (.int s53.2), some (.int s68.2)] [] _
                        exact s_drop (hj83 q93 (h91.tr h96)) (And.intro rfl (And.intro rfl (And.intro rfl (And.intro rfl trivial))))
          · refine s_ifne (pc := 67) 88 dX0_work_67 rfl ?_ ?_
            · exact s_drop (hj11 M Le.rf) (And.intro rfl (And.intro rfl (And.intro rfl trivial)))
            · refine s_aload_n (pc := 70) 0 dX0_work_70 rfl rfl ?_
              refine s_sipush (pc := 71) 9331 dX0_work_71 ks_9331 ?_
              refine s_newa_long (pc := 74) (And.intro (by decide) (by decide)) dX0_work_74 wa_long (fun M110 hM111 => ?_)
              have h112 := le_nA hM111
              have o113 := h112.ok o1
              have o114 := ok_nA hM111
              refine s_putr (pc := 76) F_0 3 rfl o113 rfl rfl rfl dX0_work_76 kf_X0_9 (fun M115 hM116 => ?_)
              have h117 := le_wR hM116
              have o118 := h117.ok o113
              refine s_aload_n (pc := 79) 0 dX0_work_79 rfl rfl ?_
              refine s_sipush (pc := 80) 9331 dX0_work_80 ks_9331 ?_
              refine s_newa_long (pc := 83) (And.intro (by decide) (by decide)) dX0_work_83 wa_long (fun M119 hM120 => ?_)
              have h121 := le_nA hM120
              have o122 := h121.ok o118
              have o123 := ok_nA hM120
              refine s_putr (pc := 85) F_0 4 rfl o122 rfl rfl rfl dX0_work_85 kf_X0_15 (fun M124 hM125 => ?_)
              have h126 := le_wR hM125
              have o127 := h126.ok o122
              exact s_drop (hj11 M124 (h112.tr (h117.tr (h121.tr h126)))) (And.intro rfl (And.intro rfl (And.intro rfl trivial)))
        · refine s_icne (pc := 21) 62 dX0_work_21 rfl ?_ ?_
          · exact s_drop (hj5 () Le.rf) (And.intro rfl (And.intro rfl (And.intro rfl trivial)))
          · refine s_aload_n (pc := 24) 0 dX0_work_24 rfl rfl ?_
            refine s_geti (pc := 25) F_0 6 rfl o1 dX0_work_25 kf_X0_18 ?_
            refine s_iload_n (pc := 28) 2 dX0_work_28 rfl rfl ?_
            refine s_icne (pc := 29) 62 dX0_work_29 rfl ?_ ?_
            · exact s_drop (hj5 () Le.rf) (And.intro rfl (And.intro rfl (And.intro rfl trivial)))
            · refine s_aload_n (pc := 32) 0 dX0_work_32 rfl rfl ?_
              refine s_geti (pc := 33) F_0 7 rfl o1 dX0_work_33 kf_X0_37 ?_
              refine s_aload_n (pc := 36) 0 dX0_work_36 rfl rfl ?_
              refine s_geto (pc := 37) F_0 0 rfl o1 dX0_work_37 kf_X0_22 ?_
              refine s_rvB (fun r128 => ?_)
              refine s_grd (fun o129 => ?_)
              refine s_getiN (pc := 40) F_10 11 rfl o129 dX0_work_40 (List.mem_of_getElem? (i := 12) rfl) ?_
              refine s_icne (pc := 43) 62 dX0_work_43 rfl ?_ ?_
              · exact s_drop (hj5 () Le.rf) (And.intro rfl (And.intro rfl (And.intro rfl trivial)))
              · refine s_aload_n (pc := 46) 0 dX0_work_46 rfl rfl ?_
                refine s_geti (pc := 47) F_0 8 rfl o1 dX0_work_47 kf_X0_43 ?_
                refine s_aload_n (pc := 50) 0 dX0_work_50 rfl rfl ?_
                refine s_geto (pc := 51) F_0 0 rfl o1 dX0_work_51 kf_X0_22 ?_
                refine s_rvB (fun r130 => ?_)
                refine s_grd (fun o131 => ?_)
                refine s_getiN (pc := 54) F_10 13 rfl o131 dX0_work_54 (List.mem_of_getElem? (i := 19) rfl) ?_
                refine s_icne (pc := 57) 62 dX0_work_57 rfl ?_ ?_
                · exact s_drop (hj5 () Le.rf) (And.intro rfl (And.intro rfl (And.intro rfl trivial)))
                · refine s_iconst (pc := 60) 1 dX0_work_60 kc_1 ?_
                  exact s_zret rfl rfl dX0_work_61
      · refine s_iconst (pc := 14) 0 dX0_work_14 kc_0 ?_
        exact s_zret rfl rfl dX0_work_15
set_option maxRecDepth 100000 in
set_option maxHeartbeats 8000000 in
noncomputable def f_X11_between (M : Mem) (a0 : Nat) (p1 : Int32) (p2 : Int32) : Option (Mem × Int32) :=
  grd (okO M 11 a0) (Option.bind (mR M a0 0) (fun r2 => grd (okO M 10 r2) (Option.bind (f_X10_hasHouse M r2 p1) (fun q4 => if q4 = 0 then (some (M, (-1))) else (Option.bind (mR M a0 0) (fun r7 => Option.bind (mR M a0 0) (fun r8 => grd (okO M 10 r8) (Option.bind (mR M r8 3) (fun r10 => grd (okO M 14 r10) (grd (vp_in p1 (mL M r10)) (grd (okO M 10 r7) (Option.bind (f_X10_hasHouse M r7 (mI M r10 p1.toNatClampNeg)) (fun q14 => if q14 = 0 then (some (M, (-1))) else (if (-1) ≤ p2 then (Option.bind (mR M a0 6) (fun r17 => Option.bind (mR M a0 0) (fun r18 => grd (okO M 10 r18) (Option.bind (mR M r18 5) (fun r20 => grd (okO M 14 r20) (grd (vp_in p1 (mL M r20)) (Option.bind (mR M a0 0) (fun r23 => grd (okO M 10 r23) (Option.bind (mR M r23 4) (fun r25 => grd (okO M 14 r25) (grd (vp_in p1 (mL M r25)) (grd (okO M 4 r17) (Option.bind (f_X4_tableTo M r17 (mI M r20 p1.toNatClampNeg) (mI M r25 p1.toNatClampNeg)) (fun q29 => grd (okO q29.1 2 q29.2) (Option.bind (f_X2_spread q29.1 q29.2 (-1) 1) (fun q35 => Option.bind (mR q35 a0 5) (fun r41 => Option.bind (mR q35 a0 0) (fun r42 => grd (okO q35 10 r42) (Option.bind (mR q35 r42 5) (fun r44 => Option.bind (mR q35 a0 0) (fun r45 => grd (okO q35 10 r45) (Option.bind (mR q35 r45 3) (fun r47 => grd (okO q35 14 r47) (grd (vp_in p1 (mL q35 r47)) (grd (okO q35 14 r44) (grd (vp_in (mI q35 r47 p1.toNatClampNeg) (mL q35 r44)) (grd (okO q35 1 r41) (Option.bind (f_X1_listAll q35 r41 (mI q35 r44 (mI q35 r47 p1.toNatClampNeg).toNatClampNeg)) (fun q53 => Option.bind (mR q53 a0 5) (fun r59 => grd (okO q53 1 r59) (Option.bind (f_X1_lowestMade q53 r59 (-1) q29.2 1) (fun q61 => Option.bind (loopO (σ := Int32 × Int32 × Int32) (ρ := Int32 × Int32) (fun s64 => Option.bind (mR q53 a0 5) (fun r72 => grd (okO q53 1 r72) (if (mI q53 r72 5) ≤ s64.2.2 then (some (.inr (s64.1, s64.2.1))) else (if s64.1 = (-1) then (some (.inr (s64.1, s64.2.1))) else (if s64.2.1 = p2 then (some (.inr (s64.1, s64.2.1))) else (bv (s64.2.1 + 1 : Int32) (fun x74 => Option.bind (mR q53 a0 5) (fun r75 => grd (okO q53 1 r75) (Option.bind (f_X1_lowestMade q53 r75 s64.1 q29.2 1) (fun q77 => bv (s64.2.2 + 1 : Int32) (fun x80 => some (.inl (q77, x74, x80))))))))))))) (q61, 0, 0)) (fun (x70 : Int32 × Int32) => if p2 = (-1) then (some (q53, x70.2)) else (Option.bind (f_X6_numberOf x70.1) (fun q81 => some (q53, q81)))))))))))))))))))))))))))))))))))) else (some (M, (-1)))))))))))))))))
abbrev Y_X11_between : Sta := (RX11, "between", cX11_between, 7, (some .int), 7)
set_option maxRecDepth 100000 in
set_option maxHeartbeats 8000000 in
theorem t_X11_between {l : Launch} {G : Gh} {M : Mem} {a0 : Nat} {p1 : Int32} {p2 : Int32} {q : Mem × Int32} (h : f_X11_between M a0 p1 p2 = some q) : Ctr l G yX11_between Y_X11_between M [.ref (gh G + a0), .int p1, .int p2] q.1 (some (.int q.2)) := by
  refine Ctr.of (Y := Y_X11_between) (L := [some (.ref (gh G + a0)), some (.int p1), some (.int p2), none, none, none, none]) (t := Option.bind (f_X11_between M a0 p1 p2) (fun q => some (q.1, some (.int q.2)))) (by decide) rfl rfl (nle rfl) (Lof_in 4 _ rfl) (fun X hG hl => ?_) (by rw [h]; rfl)
  subst hG
  subst hl
  unfold f_X11_between
  refine s_aload_n (pc := 0) 0 dX11_between_0 rfl rfl ?_
  refine s_grd (fun o1 => ?_)
  refine s_geto (pc := 1) F_11 0 rfl o1 dX11_between_1 kf_X11_10 ?_
  refine s_rvB (fun r2 => ?_)
  refine s_iload_n (pc := 4) 1 dX11_between_4 rfl rfl ?_
  refine s_grd (fun o3 => ?_)
  refine s_bind (fun q4 hq5 => ?_)
  have hC6 := t_X10_hasHouse (l := xl X) (G := xG X) hq5
  refine s_callV (pc := 5) (As := [.int p1]) (st := []) (nlt rfl) (q := (RX10, TX10, 15)) rfl rfl o3 cl_X10_hasHouse wi_X10_hasHouse wl_X10_hasHouse km_X11_119 rfl rfl (nle rfl) (nle rfl) (nle rfl) dX11_between_5 hC6 ?_
  show S0 X _ M 8 [some (.ref (gh (xG X) + a0)), some (.int p1), some (.int p2), none, none, none, none] [.int q4] _
  refine s_ifeq (pc := 8) 35 dX11_between_8 rfl ?_ ?_
  · refine s_iconst (pc := 35) (-1) dX11_between_35 kc_m1 ?_
    exact s_iret rfl dX11_between_36
  · refine s_aload_n (pc := 11) 0 dX11_between_11 rfl rfl ?_
    refine s_geto (pc := 12) F_11 0 rfl o1 dX11_between_12 kf_X11_10 ?_
    refine s_rvB (fun r7 => ?_)
    refine s_aload_n (pc := 15) 0 dX11_between_15 rfl rfl ?_
    refine s_geto (pc := 16) F_11 0 rfl o1 dX11_between_16 kf_X11_10 ?_
    refine s_rvB (fun r8 => ?_)
    refine s_grd (fun o9 => ?_)
    refine s_getoN (pc := 19) F_10 3 rfl o9 dX11_between_19 (List.mem_of_getElem? (i := 4) rfl) ?_
    refine s_rvB (fun r10 => ?_)
    refine s_iload_n (pc := 22) 1 dX11_between_22 rfl rfl ?_
    refine s_grd (fun o11 => ?_)
    refine s_grd (fun i12 => ?_)
    refine s_iald (pc := 23) o11 i12 dX11_between_23 ?_
    refine s_grd (fun o13 => ?_)
    refine s_bind (fun q14 hq15 => ?_)
    have hC16 := t_X10_hasHouse (l := xl X) (G := xG X) hq15
    refine s_callV (pc := 24) (As := [.int (mI M r10 p1.toNatClampNeg)]) (st := []) (nlt rfl) (q := (RX10, TX10, 15)) rfl rfl o13 cl_X10_hasHouse wi_X10_hasHouse wl_X10_hasHouse km_X11_119 rfl rfl (nle rfl) (nle rfl) (nle rfl) dX11_between_24 hC16 ?_
    show S0 X _ M 27 [some (.ref (gh (xG X) + a0)), some (.int p1), some (.int p2), none, none, none, none] [.int q14] _
    refine s_ifeq (pc := 27) 35 dX11_between_27 rfl ?_ ?_
    · refine s_iconst (pc := 35) (-1) dX11_between_35 kc_m1 ?_
      exact s_iret rfl dX11_between_36
    · refine s_iload_n (pc := 30) 2 dX11_between_30 rfl rfl ?_
      refine s_iconst (pc := 31) (-1) dX11_between_31 kc_m1 ?_
      refine s_icge (pc := 32) 37 dX11_between_32 rfl ?_ ?_
      · refine s_aload_n (pc := 37) 0 dX11_between_37 rfl rfl ?_
        refine s_geto (pc := 38) F_11 6 rfl o1 dX11_between_38 kf_X11_55 ?_
        refine s_rvB (fun r17 => ?_)
        refine s_aload_n (pc := 41) 0 dX11_between_41 rfl rfl ?_
        refine s_geto (pc := 42) F_11 0 rfl o1 dX11_between_42 kf_X11_10 ?_
        refine s_rvB (fun r18 => ?_)
        refine s_grd (fun o19 => ?_)
        refine s_getoN (pc := 45) F_10 5 rfl o19 dX11_between_45 (List.mem_of_getElem? (i := 7) rfl) ?_
        refine s_rvB (fun r20 => ?_)
        refine s_iload_n (pc := 48) 1 dX11_between_48 rfl rfl ?_
        refine s_grd (fun o21 => ?_)
        refine s_grd (fun i22 => ?_)
        refine s_iald (pc := 49) o21 i22 dX11_between_49 ?_
        refine s_aload_n (pc := 50) 0 dX11_between_50 rfl rfl ?_
        refine s_geto (pc := 51) F_11 0 rfl o1 dX11_between_51 kf_X11_10 ?_
        refine s_rvB (fun r23 => ?_)
        refine s_grd (fun o24 => ?_)
        refine s_getoN (pc := 54) F_10 4 rfl o24 dX11_between_54 (List.mem_of_getElem? (i := 5) rfl) ?_
        refine s_rvB (fun r25 => ?_)
        refine s_iload_n (pc := 57) 1 dX11_between_57 rfl rfl ?_
        refine s_grd (fun o26 => ?_)
        refine s_grd (fun i27 => ?_)
        refine s_iald (pc := 58) o26 i27 dX11_between_58 ?_
        refine s_grd (fun o28 => ?_)
        refine s_bind (fun q29 hq30 => ?_)
        have hC31 := t_X4_tableTo (l := xl X) (G := xG X) hq30
        refine s_callV (pc := 59) (As := [.int (mI M r20 p1.toNatClampNeg), .int (mI M r25 p1.toNatClampNeg)]) (st := []) (nlt rfl) (q := (RX4, TX4, 10)) rfl rfl o28 cl_X4_tableTo wi_X4_tableTo wl_X4_tableTo km_X11_252 rfl rfl (nle rfl) (nle rfl) (nle rfl) dX11_between_59 hC31 ?_
        have h32 := hC31.1 X
        have o33 := h32.ok o1
        show S0 X _ q29.1 62 [some (.ref (gh (xG X) + a0)), some (.int p1), some (.int p2), none, none, none, none] [.ref (gh (xG X) + q29.2)] _
        refine s_astore_n (pc := 62) 3 dX11_between_62 rfl (nlt rfl) rfl (L' := [some (.ref (gh (xG X) + a0)), some (.int p1), some (.int p2), some (.ref (gh (xG X) + q29.2)), none, none, none]) rfl ?_
        refine s_aload_n (pc := 63) 3 dX11_between_63 rfl rfl ?_
        refine s_iconst (pc := 64) (-1) dX11_between_64 kc_m1 ?_
        refine s_iconst (pc := 65) 1 dX11_between_65 kc_1 ?_
        refine s_grd (fun o34 => ?_)
        refine s_bind (fun q35 hq36 => ?_)
        have hC37 := t_X2_spread (l := xl X) (G := xG X) hq36
        refine s_callV (pc := 66) (As := [.int (-1), .int 1]) (st := []) (nlt rfl) (q := (RX2, TX2, 11)) rfl rfl o34 cl_X2_spread wi_X2_spread wl_X2_spread km_X11_260 rfl rfl (nle rfl) (nle rfl) (nle rfl) dX11_between_66 hC37 ?_
        have h38 := hC37.1 X
        have o39 := h38.ok o33
        have o40 := h38.ok o34
        show S0 X _ q35 69 [some (.ref (gh (xG X) + a0)), some (.int p1), some (.int p2), some (.ref (gh (xG X) + q29.2)), none, none, none] [] _
        refine s_aload_n (pc := 69) 0 dX11_between_69 rfl rfl ?_
        refine s_geto (pc := 70) F_11 5 rfl o39 dX11_between_70 kf_X11_48 ?_
        refine s_rvB (fun r41 => ?_)
        refine s_aload_n (pc := 73) 0 dX11_between_73 rfl rfl ?_
        refine s_geto (pc := 74) F_11 0 rfl o39 dX11_between_74 kf_X11_10 ?_
        refine s_rvB (fun r42 => ?_)
        refine s_grd (fun o43 => ?_)
        refine s_getoN (pc := 77) F_10 5 rfl o43 dX11_between_77 (List.mem_of_getElem? (i := 7) rfl) ?_
        refine s_rvB (fun r44 => ?_)
        refine s_aload_n (pc := 80) 0 dX11_between_80 rfl rfl ?_
        refine s_geto (pc := 81) F_11 0 rfl o39 dX11_between_81 kf_X11_10 ?_
        refine s_rvB (fun r45 => ?_)
        refine s_grd (fun o46 => ?_)
        refine s_getoN (pc := 84) F_10 3 rfl o46 dX11_between_84 (List.mem_of_getElem? (i := 4) rfl) ?_
        refine s_rvB (fun r47 => ?_)
        refine s_iload_n (pc := 87) 1 dX11_between_87 rfl rfl ?_
        refine s_grd (fun o48 => ?_)
        refine s_grd (fun i49 => ?_)
        refine s_iald (pc := 88) o48 i49 dX11_between_88 ?_
        refine s_grd (fun o50 => ?_)
        refine s_grd (fun i51 => ?_)
        refine s_iald (pc := 89) o50 i51 dX11_between_89 ?_
        refine s_grd (fun o52 => ?_)
        refine s_bind (fun q53 hq54 => ?_)
        have hC55 := t_X1_listAll (l := xl X) (G := xG X) hq54
        refine s_callV (pc := 90) (As := [.int (mI q35 r44 (mI q35 r47 p1.toNatClampNeg).toNatClampNeg)]) (st := []) (nlt rfl) (q := (RX1, TX1, 8)) rfl rfl o52 cl_X1_listAll wi_X1_listAll wl_X1_listAll km_X11_245 rfl rfl (nle rfl) (nle rfl) (nle rfl) dX11_between_90 hC55 ?_
        have h56 := hC55.1 X
        have o57 := h56.ok o39
        have o58 := h56.ok o40
        show S0 X _ q53 93 [some (.ref (gh (xG X) + a0)), some (.int p1), some (.int p2), some (.ref (gh (xG X) + q29.2)), none, none, none] [] _
        refine s_aload_n (pc := 93) 0 dX11_between_93 rfl rfl ?_
        refine s_geto (pc := 94) F_11 5 rfl o57 dX11_between_94 kf_X11_48 ?_
        refine s_rvB (fun r59 => ?_)
        refine s_iconst (pc := 97) (-1) dX11_between_97 kc_m1 ?_
        refine s_aload_n (pc := 98) 3 dX11_between_98 rfl rfl ?_
        refine s_iconst (pc := 99) 1 dX11_between_99 kc_1 ?_
        refine s_grd (fun o60 => ?_)
        refine s_bind (fun q61 hq62 => ?_)
        have hC63 := t_X1_lowestMade (l := xl X) (G := xG X) hq62
        refine s_callV (pc := 100) (As := [.int (-1), .ref (gh (xG X) + q29.2), .int 1]) (st := []) (nlt rfl) (q := (RX1, TX1, 8)) rfl rfl o60 cl_X1_lowestMade wi_X1_lowestMade wl_X1_lowestMade km_X11_256 rfl rfl (nle rfl) (nle rfl) (nle rfl) dX11_between_100 hC63 ?_
        show S0 X _ q53 103 [some (.ref (gh (xG X) + a0)), some (.int p1), some (.int p2), some (.ref (gh (xG X) + q29.2)), none, none, none] [.int q61] _
        refine s_istore (pc := 103) dX11_between_103 (nlt rfl) rfl (L' := [some (.ref (gh (xG X) + a0)), some (.int p1), some (.int p2), some (.ref (gh (xG X) + q29.2)), some (.int q61), none, none]) rfl ?_
        refine s_iconst (pc := 105) 0 dX11_between_105 kc_0 ?_
        refine s_istore (pc := 106) dX11_between_106 (nlt rfl) rfl (L' := [some (.ref (gh (xG X) + a0)), some (.int p1), some (.int p2), some (.ref (gh (xG X) + q29.2)), some (.int q61), some (.int 0), none]) rfl ?_
        refine s_iconst (pc := 108) 0 dX11_between_108 kc_0 ?_
        refine s_istore (pc := 109) dX11_between_109 (nlt rfl) rfl (L' := [some (.ref (gh (xG X) + a0)), some (.int p1), some (.int p2), some (.ref (gh (xG X) + q29.2)), some (.int q61), some (.int 0), some (.int 0)]) rfl ?_
        refine s_drop (L' := [some (.ref (gh (xG X) + a0)), none, some (.int p2), some (.ref (gh (xG X) + q29.2)), some (.int q61), some (.int 0), some (.int 0)]) ?_ (And.intro rfl (And.intro rfl (And.intro rfl (And.intro rfl (And.intro rfl (And.intro rfl trivial))))))
        refine s_loop1 q53 (fun s64 : Int32 × Int32 × Int32 => q53) (fun s64 : Int32 × Int32 × Int32 => [some (.ref (gh (xG X) + a0)), none, some (.int p2), some (.ref (gh (xG X) + q29.2)), some (.int s64.1), some (.int s64.2.1), some (.int s64.2.2)]) (fun x70 : Int32 × Int32 => q53) 157 (fun x70 : Int32 × Int32 => [none, none, some (.int p2), none, some (.int x70.1), some (.int x70.2), none]) (fun x70 hx71 => ?_) (fun T66 R68 hT67 hR69 s64 hs65 => ?_) (q61, 0, 0) Le.rf
        · show S0 X _ q53 157 [none, none, some (.int p2), none, some (.int x70.1), some (.int x70.2), none] [] _
          refine s_iload_n (pc := 157) 2 dX11_between_157 rfl rfl ?_
          refine s_iconst (pc := 158) (-1) dX11_between_158 kc_m1 ?_
          refine s_icne (pc := 159) 167 dX11_between_159 rfl ?_ ?_
          · refine s_iload (pc := 167) dX11_between_167 rfl ?_
            refine s_bind (fun q81 hq82 => ?_)
            have hC83 := t_X6_numberOf (l := xl X) (G := xG X) (M := q53) hq82
            refine s_callS (pc := 169) (As := [.int x70.1]) (st := []) cl_X6_numberOf wt_X6_numberOf km_X11_146 rfl rfl (nle rfl) (nle rfl) (nle rfl) dX11_between_169 hC83 ?_
            show S0 X _ q53 172 [none, none, some (.int p2), none, some (.int x70.1), some (.int x70.2), none] [.int q81] _
            exact s_iret rfl dX11_between_172
          · refine s_iload (pc := 162) dX11_between_162 rfl ?_
            refine s_goto (pc := 164) 172 dX11_between_164 rfl ?_
            exact s_iret rfl dX11_between_172
        · show S0 X _ q53 111 [some (.ref (gh (xG X) + a0)), none, some (.int p2), some (.ref (gh (xG X) + q29.2)), some (.int s64.1), some (.int s64.2.1), some (.int s64.2.2)] [] _
          refine s_iload (pc := 111) dX11_between_111 rfl ?_
          refine s_aload_n (pc := 113) 0 dX11_between_113 rfl rfl ?_
          refine s_geto (pc := 114) F_11 5 rfl o57 dX11_between_114 kf_X11_48 ?_
          refine s_rvB (fun r72 => ?_)
          refine s_grd (fun o73 => ?_)
          refine s_geti (pc := 117) F_1 5 rfl o73 dX11_between_117 kf_X11_248 ?_
          refine s_icge (pc := 120) 157 dX11_between_120 rfl ?_ ?_
          · exact s_drop (hR69 (s64.1, s64.2.1) Le.rf) (And.intro rfl (And.intro rfl (And.intro rfl trivial)))
          · refine s_iload (pc := 123) dX11_between_123 rfl ?_
            refine s_iconst (pc := 125) (-1) dX11_between_125 kc_m1 ?_
            refine s_iceq (pc := 126) 157 dX11_between_126 rfl ?_ ?_
            · exact s_drop (hR69 (s64.1, s64.2.1) Le.rf) (And.intro rfl (And.intro rfl (And.intro rfl trivial)))
            · refine s_iload (pc := 129) dX11_between_129 rfl ?_
              refine s_iload_n (pc := 131) 2 dX11_between_131 rfl rfl ?_
              refine s_iceq (pc := 132) 157 dX11_between_132 rfl ?_ ?_
              · exact s_drop (hR69 (s64.1, s64.2.1) Le.rf) (And.intro rfl (And.intro rfl (And.intro rfl trivial)))
              · refine s_iinc (pc := 135) dX11_between_135 rfl (v := s64.2.1 + 1) (congrArg (fun z : Int32 => s64.2.1 + z) kc_1) (nlt rfl) rfl (L' := [some (.ref (gh (xG X) + a0)), none, some (.int p2), some (.ref (gh (xG X) + q29.2)), some (.int s64.1), some (.int (s64.2.1 + 1)), some (.int s64.2.2)]) rfl ?_
                refine s_bv (fun x74 : Int32 => [some (.ref (gh (xG X) + a0)), none, some (.int p2), some (.ref (gh (xG X) + q29.2)), some (.int s64.1), some (.int x74), some (.int s64.2.2)]) (fun x74 => ?_) rfl
                refine s_aload_n (pc := 138) 0 dX11_between_138 rfl rfl ?_
                refine s_geto (pc := 139) F_11 5 rfl o57 dX11_between_139 kf_X11_48 ?_
                refine s_rvB (fun r75 => ?_)
                refine s_iload (pc := 142) dX11_between_142 rfl ?_
                refine s_aload_n (pc := 144) 3 dX11_between_144 rfl rfl ?_
                refine s_iconst (pc := 145) 1 dX11_between_145 kc_1 ?_
                refine s_grd (fun o76 => ?_)
                refine s_bind (fun q77 hq78 => ?_)
                have hC79 := t_X1_lowestMade (l := xl X) (G := xG X) hq78
                refine s_callV (pc := 146) (As := [.int s64.1, .ref (gh (xG X) + q29.2), .int 1]) (st := []) (nlt rfl) (q := (RX1, TX1, 8)) rfl rfl o76 cl_X1_lowestMade wi_X1_lowestMade wl_X1_lowestMade km_X11_256 rfl rfl (nle rfl) (nle rfl) (nle rfl) dX11_between_146 hC79 ?_
                show S0 X _ q53 149 [some (.ref (gh (xG X) + a0)), none, some (.int p2), some (.ref (gh (xG X) + q29.2)), some (.int s64.1), some (.int x74), some (.int s64.2.2)] [.int q77] _
                refine s_istore (pc := 149) dX11_between_149 (nlt rfl) rfl (L' := [some (.ref (gh (xG X) + a0)), none, some (.int p2), some (.ref (gh (xG X) + q29.2)), some (.int q77), some (.int x74), some (.int s64.2.2)]) rfl ?_
                refine s_iinc (pc := 151) dX11_between_151 rfl (v := s64.2.2 + 1) (congrArg (fun z : Int32 => s64.2.2 + z) kc_1) (nlt rfl) rfl (L' := [some (.ref (gh (xG X) + a0)), none, some (.int p2), some (.ref (gh (xG X) + q29.2)), some (.int q77), some (.int x74), some (.int (s64.2.2 + 1))]) rfl ?_
                refine s_bv (fun x80 : Int32 => [some (.ref (gh (xG X) + a0)), none, some (.int p2), some (.ref (gh (xG X) + q29.2)), some (.int q77), some (.int x74), some (.int x80)]) (fun x80 => ?_) rfl
                refine s_goto (pc := 154) 111 dX11_between_154 rfl ?_
                exact s_drop (hT67 (q77, x74, x80) Le.rf) (And.intro rfl (And.intro rfl (And.intro rfl (And.intro rfl (And.intro rfl (And.intro rfl trivial))))))
      · refine s_iconst (pc := 35) (-1) dX11_between_35 kc_m1 ?_
        exact s_iret rfl dX11_between_36
set_option maxRecDepth 100000 in
set_option maxHeartbeats 8000000 in
noncomputable def f_X11_born (M : Mem) (a0 : Nat) (p1 : Int32) (p2 : Int32) (p3 : Int32) (p4 : Int32) : Option (Mem × Int32) :=
  grd (okO M 11 a0) (Option.bind (f_X11_giveBirth M a0 p1 p2 p3 p4) (fun q2 => Option.bind (f_X11_settle q2.1 a0 q2.2) (fun q7 => some (q7.1, q7.2))))
abbrev Y_X11_born : Sta := (RX11, "born", cX11_born, 5, (some .int), 7)
set_option maxRecDepth 100000 in
set_option maxHeartbeats 8000000 in
theorem t_X11_born {l : Launch} {G : Gh} {M : Mem} {a0 : Nat} {p1 : Int32} {p2 : Int32} {p3 : Int32} {p4 : Int32} {q : Mem × Int32} (h : f_X11_born M a0 p1 p2 p3 p4 = some q) : Ctr l G yX11_born Y_X11_born M [.ref (gh G + a0), .int p1, .int p2, .int p3, .int p4] q.1 (some (.int q.2)) := by
  refine Ctr.of (Y := Y_X11_born) (L := [some (.ref (gh G + a0)), some (.int p1), some (.int p2), some (.int p3), some (.int p4)]) (t := Option.bind (f_X11_born M a0 p1 p2 p3 p4) (fun q => some (q.1, some (.int q.2)))) (by decide) rfl rfl (nle rfl) (Lof_in 0 _ rfl) (fun X hG hl => ?_) (by rw [h]; rfl)
  subst hG
  subst hl
  unfold f_X11_born
  refine s_aload_n (pc := 0) 0 dX11_born_0 rfl rfl ?_
  refine s_aload_n (pc := 1) 0 dX11_born_1 rfl rfl ?_
  refine s_iload_n (pc := 2) 1 dX11_born_2 rfl rfl ?_
  refine s_iload_n (pc := 3) 2 dX11_born_3 rfl rfl ?_
  refine s_iload_n (pc := 4) 3 dX11_born_4 rfl rfl ?_
  refine s_iload (pc := 5) dX11_born_5 rfl ?_
  refine s_grd (fun o1 => ?_)
  refine s_bind (fun q2 hq3 => ?_)
  have hC4 := t_X11_giveBirth (l := xl X) (G := xG X) hq3
  refine s_callV (pc := 7) (As := [.int p1, .int p2, .int p3, .int p4]) (st := [.ref (gh (xG X) + a0)]) (nlt rfl) (q := (RX11, TX11, 16)) rfl rfl o1 cl_X11_giveBirth wi_X11_giveBirth wl_X11_giveBirth km_X11_132 rfl rfl (nle rfl) (nle rfl) (nle rfl) dX11_born_7 hC4 ?_
  have h5 := hC4.1 X
  have o6 := h5.ok o1
  show S0 X _ q2.1 10 [some (.ref (gh (xG X) + a0)), some (.int p1), some (.int p2), some (.int p3), some (.int p4)] [.int q2.2, .ref (gh (xG X) + a0)] _
  refine s_bind (fun q7 hq8 => ?_)
  have hC9 := t_X11_settle (l := xl X) (G := xG X) hq8
  refine s_callV (pc := 10) (As := [.int q2.2]) (st := []) (nlt rfl) (q := (RX11, TX11, 16)) rfl rfl o6 cl_X11_settle wi_X11_settle wl_X11_settle km_X11_129 rfl rfl (nle rfl) (nle rfl) (nle rfl) dX11_born_10 hC9 ?_
  have h10 := hC9.1 X
  have o11 := h10.ok o6
  show S0 X _ q7.1 13 [some (.ref (gh (xG X) + a0)), some (.int p1), some (.int p2), some (.int p3), some (.int p4)] [.int q7.2] _
  exact s_iret rfl dX11_born_13
