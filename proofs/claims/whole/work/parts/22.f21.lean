noncomputable def b_X12_readPart (g_X12_readSum : Mem → Nat → Int32 → Option Mem) (M : Mem) (a0 : Nat) (x1 : Int32) : Option Mem :=
  grd (okO M 12 a0) (Option.bind (f_X12_fine M a0) (fun q2 => if q2 = 0 then (some M) else (Option.bind (mR M a0 19) (fun r5 => grd (okO M 14 r5) (grd (vp_in (mI M a0 23) (mL M r5)) (bv (mI M r5 (mI M a0 23).toNatClampNeg : Int32) (fun x8 => Option.bind (f_X12_sign 91) (fun q9 => if x8 = q9 then (bv (fun (s56 : Mem) => Option.bind (f_X12_fine s56 a0) (fun q60 => if q60 = 0 then (some s56) else (bv (wI s56 a0 23 ((mI s56 a0 23) + 1)) (fun M63 => Option.bind (g_X12_readSum M63 a0 (x1 + 1)) (fun q67 => Option.bind (f_X12_sign 93) (fun q72 => Option.bind (f_X12_must q67 a0 q72) (fun q75 => some q75))))))) (fun j55 => if x1 = 8 then (Option.bind (f_X12_faults M a0) (fun q80 => j55 q80)) else (j55 M))) else (bv (fun (s13 : Unit) => Option.bind (f_X12_leaf M a0) (fun q16 => bv (fun (s22 : Mem) => if (mI s22 a0 14) = 0 then (some s22) else (if x8 = 11 then (Option.bind (f_X12_mustNumber s22 a0 0 5) (fun q26 => some q26)) else (some s22))) (fun j21 => if (mI q16 a0 14) = 0 then (j21 q16) else (bv (fun (s32 : Unit) => Option.bind (f_X12_mustNumber q16 a0 0 11) (fun q35 => j21 q35)) (fun j31 => if x8 = 10 then (j31 ()) else (if x8 = 11 then (j31 ()) else (j21 q16))))))) (fun j12 => bv (fun (s41 : Unit) => Option.bind (f_X12_isValue M a0 x8) (fun q44 => if q44 = 0 then (Option.bind (f_X12_faults M a0) (fun q47 => some q47)) else (j12 ()))) (fun j40 => if x8 = 50 then (Option.bind (mR M a0 20) (fun r52 => grd (okO M 14 r52) (grd (vp_in (mI M a0 23) (mL M r52)) (if (mI M r52 (mI M a0 23).toNatClampNeg) ≤ 1000 then (j12 ()) else (j40 ()))))) else (j40 ()))))))))))))
abbrev Y_X12_readPart (d : Nat) : Sta := (RX12, "readPart", cX12_readPart, 3, none, 4 + d)
set_option maxRecDepth 100000 in
set_option maxHeartbeats 8000000 in
theorem t_X12_readPart {d : Nat} {g_X12_readSum : Mem → Nat → Int32 → Option Mem} {l : Launch} {G : Gh} {M : Mem} {a0 : Nat} {x1 : Int32} {q : Mem} (hg_X12_readSum : ∀ X : Ctx, xG X = G → xl X = l → ∀ (M : Mem) (a0 : Nat) (x1 : Int32) (q : Mem), g_X12_readSum M a0 x1 = some q → Ctr (xl X) (xG X) yX12_readSum (Y_X12_readSum d) M [.ref (gh (xG X) + a0), .int x1] q (none)) (h : b_X12_readPart g_X12_readSum M a0 x1 = some q) : Ctr l G yX12_readPart (Y_X12_readPart (d + 1)) M [.ref (gh G + a0), .int x1] q (none) := by
  refine Ctr.of (Y := (Y_X12_readPart (d + 1))) (L := [some (.ref (gh G + a0)), some (.int x1), none]) (t := Option.bind (b_X12_readPart g_X12_readSum M a0 x1) (fun q => some (q, (none : Option Value)))) (by decide) rfl rfl (nle rfl) (Lof_in 1 _ rfl) (fun X hG hl => ?_) (by rw [h]; rfl)
  subst hG
  subst hl
  unfold b_X12_readPart
  refine s_aload_n (pc := 0) 0 dX12_readPart_0 rfl rfl ?_
  refine s_grd (fun o1 => ?_)
  refine s_bind (fun q2 hq3 => ?_)
  have hC4 := t_X12_fine (l := xl X) (G := xG X) hq3
  refine s_callV (pc := 1) (As := []) (st := []) (nlt rfl) (q := (RX12, TX12, 59)) rfl rfl o1 cl_X12_fine wi_X12_fine wl_X12_fine km_X12_233 rfl rfl (Nat.le_trans (nle rfl : _ ≤ 4) (Nat.le_add_right 4 _)) (nle rfl) (nle rfl) dX12_readPart_1 hC4 ?_
  show S0 X _ M 4 [some (.ref (gh (xG X) + a0)), some (.int x1), none] [.int q2] _
  refine s_ifne (pc := 4) 8 dX12_readPart_4 rfl ?_ ?_
  · refine s_aload_n (pc := 8) 0 dX12_readPart_8 rfl rfl ?_
    refine s_geto (pc := 9) F_12 19 rfl o1 dX12_readPart_9 kf_X12_52 ?_
    refine s_rvB (fun r5 => ?_)
    refine s_aload_n (pc := 12) 0 dX12_readPart_12 rfl rfl ?_
    refine s_geti (pc := 13) F_12 23 rfl o1 dX12_readPart_13 kf_X12_237 ?_
    refine s_grd (fun o6 => ?_)
    refine s_grd (fun i7 => ?_)
    refine s_iald (pc := 16) o6 i7 dX12_readPart_16 ?_
    refine s_istore_n (pc := 17) 2 dX12_readPart_17 rfl (nlt rfl) rfl (L' := [some (.ref (gh (xG X) + a0)), some (.int x1), some (.int (mI M r5 (mI M a0 23).toNatClampNeg))]) rfl ?_
    refine s_bv (fun x8 : Int32 => [some (.ref (gh (xG X) + a0)), some (.int x1), some (.int x8)]) (fun x8 => ?_) rfl
    refine s_iload_n (pc := 18) 2 dX12_readPart_18 rfl rfl ?_
    refine s_bipush (pc := 19) 91 dX12_readPart_19 kb_91 ?_
    refine s_bind (fun q9 hq10 => ?_)
    have hC11 := t_X12_sign (l := xl X) (G := xG X) (M := M) hq10
    refine s_callS (pc := 21) (As := [.int 91]) (st := [.int x8]) cl_X12_sign wt_X12_sign km_X12_278 rfl rfl (Nat.le_trans (nle rfl : _ ≤ 4) (Nat.le_add_right 4 _)) (nle rfl) (nle rfl) dX12_readPart_21 hC11 ?_
    show S0 X _ M 24 [some (.ref (gh (xG X) + a0)), some (.int x1), some (.int x8)] [.int q9, .int x8] _
    refine s_icne (pc := 24) 74 dX12_readPart_24 rfl ?_ ?_
    · refine s_iload_n (pc := 74) 2 dX12_readPart_74 rfl rfl ?_
      refine s_bipush (pc := 75) 50 dX12_readPart_75 kb_50 ?_
      refine s_join M (fun s13 : Unit => M) 103 (fun s13 : Unit => [some (.ref (gh (xG X) + a0)), none, some (.int x8)]) (fun s13 : Unit => []) (fun s13 hs14 => ?_) (fun j12 hj15 => ?_)
      · show S0 X _ M 103 [some (.ref (gh (xG X) + a0)), none, some (.int x8)] [] _
        refine s_aload_n (pc := 103) 0 dX12_readPart_103 rfl rfl ?_
        refine s_bind (fun q16 hq17 => ?_)
        have hC18 := t_X12_leaf (l := xl X) (G := xG X) hq17
        refine s_callV (pc := 104) (As := []) (st := []) (nlt rfl) (q := (RX12, TX12, 59)) rfl rfl o1 cl_X12_leaf wi_X12_leaf wl_X12_leaf km_X12_291 rfl rfl (Nat.le_trans (nle rfl : _ ≤ 4) (Nat.le_add_right 4 _)) (nle rfl) (nle rfl) dX12_readPart_104 hC18 ?_
        have h19 := hC18.1 X
        have o20 := h19.ok o1
        show S0 X _ q16 107 [some (.ref (gh (xG X) + a0)), none, some (.int x8)] [] _
        refine s_aload_n (pc := 107) 0 dX12_readPart_107 rfl rfl ?_
        refine s_geti (pc := 108) F_12 14 rfl o20 dX12_readPart_108 kf_X12_249 ?_
        refine s_join q16 (fun s22 : Mem => s22) 133 (fun s22 : Mem => [some (.ref (gh (xG X) + a0)), none, some (.int x8)]) (fun s22 : Mem => []) (fun s22 hs23 => ?_) (fun j21 hj24 => ?_)
        · show S0 X _ s22 133 [some (.ref (gh (xG X) + a0)), none, some (.int x8)] [] _
          have o25 := hs23.ok o20
          refine s_aload_n (pc := 133) 0 dX12_readPart_133 rfl rfl ?_
          refine s_geti (pc := 134) F_12 14 rfl o25 dX12_readPart_134 kf_X12_249 ?_
          refine s_ifeq (pc := 137) 159 dX12_readPart_137 rfl ?_ ?_
          · exact s_vret rfl dX12_readPart_159
          · refine s_iload_n (pc := 140) 2 dX12_readPart_140 rfl rfl ?_
            refine s_bipush (pc := 141) 11 dX12_readPart_141 kb_11 ?_
            refine s_icne (pc := 143) 159 dX12_readPart_143 rfl ?_ ?_
            · exact s_vret rfl dX12_readPart_159
            · refine s_aload_n (pc := 146) 0 dX12_readPart_146 rfl rfl ?_
              refine s_iconst (pc := 147) 0 dX12_readPart_147 kc_0 ?_
              refine s_iconst (pc := 148) 5 dX12_readPart_148 kc_5 ?_
              refine s_bind (fun q26 hq27 => ?_)
              have hC28 := t_X12_mustNumber (l := xl X) (G := xG X) hq27
              refine s_callV (pc := 149) (As := [.int 0, .int 5]) (st := []) (nlt rfl) (q := (RX12, TX12, 59)) rfl rfl o25 cl_X12_mustNumber wi_X12_mustNumber wl_X12_mustNumber km_X12_262 rfl rfl (Nat.le_trans (nle rfl : _ ≤ 4) (Nat.le_add_right 4 _)) (nle rfl) (nle rfl) dX12_readPart_149 hC28 ?_
              have h29 := hC28.1 X
              have o30 := h29.ok o25
              show S0 X _ q26 152 [some (.ref (gh (xG X) + a0)), none, some (.int x8)] [] _
              refine s_goto (pc := 152) 159 dX12_readPart_152 rfl ?_
              exact s_vret rfl dX12_readPart_159
        · refine s_ifeq (pc := 111) 133 dX12_readPart_111 rfl ?_ ?_
          · exact s_drop (hj24 q16 Le.rf) (And.intro rfl (And.intro rfl trivial))
          · refine s_iload_n (pc := 114) 2 dX12_readPart_114 rfl rfl ?_
            refine s_bipush (pc := 115) 10 dX12_readPart_115 kb_10 ?_
            refine s_join q16 (fun s32 : Unit => q16) 126 (fun s32 : Unit => [some (.ref (gh (xG X) + a0)), none, some (.int x8)]) (fun s32 : Unit => []) (fun s32 hs33 => ?_) (fun j31 hj34 => ?_)
            · show S0 X _ q16 126 [some (.ref (gh (xG X) + a0)), none, some (.int x8)] [] _
              refine s_aload_n (pc := 126) 0 dX12_readPart_126 rfl rfl ?_
              refine s_iconst (pc := 127) 0 dX12_readPart_127 kc_0 ?_
              refine s_bipush (pc := 128) 11 dX12_readPart_128 kb_11 ?_
              refine s_bind (fun q35 hq36 => ?_)
              have hC37 := t_X12_mustNumber (l := xl X) (G := xG X) hq36
              refine s_callV (pc := 130) (As := [.int 0, .int 11]) (st := []) (nlt rfl) (q := (RX12, TX12, 59)) rfl rfl o20 cl_X12_mustNumber wi_X12_mustNumber wl_X12_mustNumber km_X12_262 rfl rfl (Nat.le_trans (nle rfl : _ ≤ 4) (Nat.le_add_right 4 _)) (nle rfl) (nle rfl) dX12_readPart_130 hC37 ?_
              have h38 := hC37.1 X
              have o39 := h38.ok o20
              show S0 X _ q35 133 [some (.ref (gh (xG X) + a0)), none, some (.int x8)] [] _
              exact s_drop (hj24 q35 h38) (And.intro rfl (And.intro rfl trivial))
            · refine s_iceq (pc := 117) 126 dX12_readPart_117 rfl ?_ ?_
              · exact s_drop (hj34 () Le.rf) (And.intro rfl (And.intro rfl trivial))
              · refine s_iload_n (pc := 120) 2 dX12_readPart_120 rfl rfl ?_
                refine s_bipush (pc := 121) 11 dX12_readPart_121 kb_11 ?_
                refine s_icne (pc := 123) 133 dX12_readPart_123 rfl ?_ ?_
                · exact s_drop (hj24 q16 Le.rf) (And.intro rfl (And.intro rfl trivial))
                · exact s_drop (hj34 () Le.rf) (And.intro rfl (And.intro rfl trivial))
      · refine s_join M (fun s41 : Unit => M) 95 (fun s41 : Unit => [some (.ref (gh (xG X) + a0)), none, some (.int x8)]) (fun s41 : Unit => []) (fun s41 hs42 => ?_) (fun j40 hj43 => ?_)
        · show S0 X _ M 95 [some (.ref (gh (xG X) + a0)), none, some (.int x8)] [] _
          refine s_aload_n (pc := 95) 0 dX12_readPart_95 rfl rfl ?_
          refine s_iload_n (pc := 96) 2 dX12_readPart_96 rfl rfl ?_
          refine s_bind (fun q44 hq45 => ?_)
          have hC46 := t_X12_isValue (l := xl X) (G := xG X) hq45
          refine s_callV (pc := 97) (As := [.int x8]) (st := []) (nlt rfl) (q := (RX12, TX12, 59)) rfl rfl o1 cl_X12_isValue wi_X12_isValue wl_X12_isValue km_X12_288 rfl rfl (Nat.le_trans (nle rfl : _ ≤ 4) (Nat.le_add_right 4 _)) (nle rfl) (nle rfl) dX12_readPart_97 hC46 ?_
          show S0 X _ M 100 [some (.ref (gh (xG X) + a0)), none, some (.int x8)] [.int q44] _
          refine s_ifeq (pc := 100) 155 dX12_readPart_100 rfl ?_ ?_
          · refine s_aload_n (pc := 155) 0 dX12_readPart_155 rfl rfl ?_
            refine s_bind (fun q47 hq48 => ?_)
            have hC49 := t_X12_faults (l := xl X) (G := xG X) hq48
            refine s_callV (pc := 156) (As := []) (st := []) (nlt rfl) (q := (RX12, TX12, 59)) rfl rfl o1 cl_X12_faults wi_X12_faults wl_X12_faults km_X12_243 rfl rfl (Nat.le_trans (nle rfl : _ ≤ 4) (Nat.le_add_right 4 _)) (nle rfl) (nle rfl) dX12_readPart_156 hC49 ?_
            have h50 := hC49.1 X
            have o51 := h50.ok o1
            show S0 X _ q47 159 [some (.ref (gh (xG X) + a0)), none, some (.int x8)] [] _
            exact s_vret rfl dX12_readPart_159
          · exact s_drop (hj15 () Le.rf) (And.intro rfl (And.intro rfl trivial))
        · refine s_icne (pc := 77) 95 dX12_readPart_77 rfl ?_ ?_
          · exact s_drop (hj43 () Le.rf) (And.intro rfl (And.intro rfl trivial))
          · refine s_aload_n (pc := 80) 0 dX12_readPart_80 rfl rfl ?_
            refine s_geto (pc := 81) F_12 20 rfl o1 dX12_readPart_81 kf_X12_55 ?_
            refine s_rvB (fun r52 => ?_)
            refine s_aload_n (pc := 84) 0 dX12_readPart_84 rfl rfl ?_
            refine s_geti (pc := 85) F_12 23 rfl o1 dX12_readPart_85 kf_X12_237 ?_
            refine s_grd (fun o53 => ?_)
            refine s_grd (fun i54 => ?_)
            refine s_iald (pc := 88) o53 i54 dX12_readPart_88 ?_
            refine s_sipush (pc := 89) 1000 dX12_readPart_89 ks_1000 ?_
            refine s_icle (pc := 92) 103 dX12_readPart_92 rfl ?_ ?_
            · exact s_drop (hj15 () Le.rf) (And.intro rfl (And.intro rfl trivial))
            · exact s_drop (hj43 () Le.rf) (And.intro rfl (And.intro rfl trivial))
    · refine s_iload_n (pc := 27) 1 dX12_readPart_27 rfl rfl ?_
      refine s_bipush (pc := 28) 8 dX12_readPart_28 kb_8 ?_
      refine s_join M (fun s56 : Mem => s56) 37 (fun s56 : Mem => [some (.ref (gh (xG X) + a0)), some (.int x1), none]) (fun s56 : Mem => []) (fun s56 hs57 => ?_) (fun j55 hj58 => ?_)
      · show S0 X _ s56 37 [some (.ref (gh (xG X) + a0)), some (.int x1), none] [] _
        have o59 := hs57.ok o1
        refine s_aload_n (pc := 37) 0 dX12_readPart_37 rfl rfl ?_
        refine s_bind (fun q60 hq61 => ?_)
        have hC62 := t_X12_fine (l := xl X) (G := xG X) hq61
        refine s_callV (pc := 38) (As := []) (st := []) (nlt rfl) (q := (RX12, TX12, 59)) rfl rfl o59 cl_X12_fine wi_X12_fine wl_X12_fine km_X12_233 rfl rfl (Nat.le_trans (nle rfl : _ ≤ 4) (Nat.le_add_right 4 _)) (nle rfl) (nle rfl) dX12_readPart_38 hC62 ?_
        show S0 X _ s56 41 [some (.ref (gh (xG X) + a0)), some (.int x1), none] [.int q60] _
        refine s_ifne (pc := 41) 45 dX12_readPart_41 rfl ?_ ?_
        · refine s_aload_n (pc := 45) 0 dX12_readPart_45 rfl rfl ?_
          refine s_dup (pc := 46) dX12_readPart_46 rfl ?_
          refine s_geti (pc := 47) F_12 23 rfl o59 dX12_readPart_47 kf_X12_237 ?_
          refine s_iconst (pc := 50) 1 dX12_readPart_50 kc_1 ?_
          refine s_iadd (pc := 51) dX12_readPart_51 ?_
          refine s_puti (pc := 52) F_12 23 rfl o59 rfl rfl rfl dX12_readPart_52 kf_X12_237 (fun M63 hM64 => ?_)
          have h65 := le_wI hM64
          have o66 := h65.ok o59
          refine s_aload_n (pc := 55) 0 dX12_readPart_55 rfl rfl ?_
          refine s_iload_n (pc := 56) 1 dX12_readPart_56 rfl rfl ?_
          refine s_iconst (pc := 57) 1 dX12_readPart_57 kc_1 ?_
          refine s_iadd (pc := 58) dX12_readPart_58 ?_
          refine s_bind (fun q67 hq68 => ?_)
          have hC69 := hg_X12_readSum X rfl rfl M63 a0 (x1 + 1) q67 hq68
          refine s_callV (pc := 59) (As := [.int (x1 + 1)]) (st := []) (nlt rfl) (q := (RX12, TX12, 59)) rfl rfl o66 cl_X12_readSum wi_X12_readSum wl_X12_readSum km_X12_253 rfl rfl (Nat.le_refl _) (nle rfl) (nle rfl) dX12_readPart_59 hC69 ?_
          have h70 := hC69.1 X
          have o71 := h70.ok o66
          show S0 X _ q67 62 [some (.ref (gh (xG X) + a0)), some (.int x1), none] [] _
          refine s_aload_n (pc := 62) 0 dX12_readPart_62 rfl rfl ?_
          refine s_bipush (pc := 63) 93 dX12_readPart_63 kb_93 ?_
          refine s_bind (fun q72 hq73 => ?_)
          have hC74 := t_X12_sign (l := xl X) (G := xG X) (M := q67) hq73
          refine s_callS (pc := 65) (As := [.int 93]) (st := [.ref (gh (xG X) + a0)]) cl_X12_sign wt_X12_sign km_X12_278 rfl rfl (Nat.le_trans (nle rfl : _ ≤ 4) (Nat.le_add_right 4 _)) (nle rfl) (nle rfl) dX12_readPart_65 hC74 ?_
          show S0 X _ q67 68 [some (.ref (gh (xG X) + a0)), some (.int x1), none] [.int q72, .ref (gh (xG X) + a0)] _
          refine s_bind (fun q75 hq76 => ?_)
          have hC77 := t_X12_must (l := xl X) (G := xG X) hq76
          refine s_callV (pc := 68) (As := [.int q72]) (st := []) (nlt rfl) (q := (RX12, TX12, 59)) rfl rfl o71 cl_X12_must wi_X12_must wl_X12_must km_X12_256 rfl rfl (Nat.le_trans (nle rfl : _ ≤ 4) (Nat.le_add_right 4 _)) (nle rfl) (nle rfl) dX12_readPart_68 hC77 ?_
          have h78 := hC77.1 X
          have o79 := h78.ok o71
          show S0 X _ q75 71 [some (.ref (gh (xG X) + a0)), some (.int x1), none] [] _
          refine s_goto (pc := 71) 159 dX12_readPart_71 rfl ?_
          exact s_vret rfl dX12_readPart_159
        · exact s_vret rfl dX12_readPart_44
      · refine s_icne (pc := 30) 37 dX12_readPart_30 rfl ?_ ?_
        · exact s_drop (hj58 M Le.rf) (And.intro rfl (And.intro rfl trivial))
        · refine s_aload_n (pc := 33) 0 dX12_readPart_33 rfl rfl ?_
          refine s_bind (fun q80 hq81 => ?_)
          have hC82 := t_X12_faults (l := xl X) (G := xG X) hq81
          refine s_callV (pc := 34) (As := []) (st := []) (nlt rfl) (q := (RX12, TX12, 59)) rfl rfl o1 cl_X12_faults wi_X12_faults wl_X12_faults km_X12_243 rfl rfl (Nat.le_trans (nle rfl : _ ≤ 4) (Nat.le_add_right 4 _)) (nle rfl) (nle rfl) dX12_readPart_34 hC82 ?_
          have h83 := hC82.1 X
          have o84 := h83.ok o1
          show S0 X _ q80 37 [some (.ref (gh (xG X) + a0)), some (.int x1), some (.int x8)] [] _
          exact s_drop (hj58 q80 h83) (And.intro rfl (And.intro rfl trivial))
  · exact s_vret rfl dX12_readPart_7
noncomputable def b_X12_readSum (g_X12_readTerm : Mem → Nat → Int32 → Option Mem) (M : Mem) (a0 : Nat) (x1 : Int32) : Option Mem :=
  grd (okO M 12 a0) (Option.bind (g_X12_readTerm M a0 x1) (fun q2 => Option.bind (loopO (σ := Mem) (ρ := Mem) (fun s7 => Option.bind (f_X12_sign 43) (fun q16 => Option.bind (f_X12_takes0 s7 a0 q16) (fun q19 => bv (fun (s25 : Mem) => Option.bind (g_X12_readTerm s25 a0 x1) (fun q29 => some (.inl q29))) (fun j24 => if q19.2 = 0 then (Option.bind (f_X12_sign 45) (fun q34 => Option.bind (f_X12_takes0 q19.1 a0 q34) (fun q37 => if q37.2 = 0 then (some (.inr q37.1)) else (j24 q37.1)))) else (j24 q19.1))))) q2) (fun (x14 : Mem) => some x14)))
abbrev Y_X12_readSum (d : Nat) : Sta := (RX12, "readSum", cX12_readSum, 2, none, 4 + d)
set_option maxRecDepth 100000 in
set_option maxHeartbeats 8000000 in
theorem t_X12_readSum {d : Nat} {g_X12_readTerm : Mem → Nat → Int32 → Option Mem} {l : Launch} {G : Gh} {M : Mem} {a0 : Nat} {x1 : Int32} {q : Mem} (hg_X12_readTerm : ∀ X : Ctx, xG X = G → xl X = l → ∀ (M : Mem) (a0 : Nat) (x1 : Int32) (q : Mem), g_X12_readTerm M a0 x1 = some q → Ctr (xl X) (xG X) yX12_readTerm (Y_X12_readTerm d) M [.ref (gh (xG X) + a0), .int x1] q (none)) (h : b_X12_readSum g_X12_readTerm M a0 x1 = some q) : Ctr l G yX12_readSum (Y_X12_readSum (d + 1)) M [.ref (gh G + a0), .int x1] q (none) := by
  refine Ctr.of (Y := (Y_X12_readSum (d + 1))) (L := [some (.ref (gh G + a0)), some (.int x1)]) (t := Option.bind (b_X12_readSum g_X12_readTerm M a0 x1) (fun q => some (q, (none : Option Value)))) (by decide) rfl rfl (nle rfl) (Lof_in 0 _ rfl) (fun X hG hl => ?_) (by rw [h]; rfl)
  subst hG
  subst hl
  unfold b_X12_readSum
  refine s_aload_n (pc := 0) 0 dX12_readSum_0 rfl rfl ?_
  refine s_iload_n (pc := 1) 1 dX12_readSum_1 rfl rfl ?_
  refine s_grd (fun o1 => ?_)
  refine s_bind (fun q2 hq3 => ?_)
  have hC4 := hg_X12_readTerm X rfl rfl M a0 x1 q2 hq3
  refine s_callV (pc := 2) (As := [.int x1]) (st := []) (nlt rfl) (q := (RX12, TX12, 59)) rfl rfl o1 cl_X12_readTerm wi_X12_readTerm wl_X12_readTerm km_X12_282 rfl rfl (Nat.le_refl _) (nle rfl) (nle rfl) dX12_readSum_2 hC4 ?_
  have h5 := hC4.1 X
  have o6 := h5.ok o1
  show S0 X _ q2 5 [some (.ref (gh (xG X) + a0)), some (.int x1)] [] _
  refine s_drop (L' := [some (.ref (gh (xG X) + a0)), some (.int x1)]) ?_ (And.intro rfl (And.intro rfl trivial))
  refine s_loop1 q2 (fun s7 : Mem => s7) (fun s7 : Mem => [some (.ref (gh (xG X) + a0)), some (.int x1)]) (fun x14 : Mem => x14) 37 (fun x14 : Mem => [none, none]) (fun x14 hx15 => ?_) (fun T9 R11 hT10 hR12 s7 hs8 => ?_) q2 Le.rf
  · show S0 X _ x14 37 [none, none] [] _
    exact s_vret rfl dX12_readSum_37
  · show S0 X _ s7 5 [some (.ref (gh (xG X) + a0)), some (.int x1)] [] _
    have o13 := hs8.ok o6
    refine s_aload_n (pc := 5) 0 dX12_readSum_5 rfl rfl ?_
    refine s_bipush (pc := 6) 43 dX12_readSum_6 kb_43 ?_
    refine s_bind (fun q16 hq17 => ?_)
    have hC18 := t_X12_sign (l := xl X) (G := xG X) (M := s7) hq17
    refine s_callS (pc := 8) (As := [.int 43]) (st := [.ref (gh (xG X) + a0)]) cl_X12_sign wt_X12_sign km_X12_278 rfl rfl (Nat.le_trans (nle rfl : _ ≤ 4) (Nat.le_add_right 4 _)) (nle rfl) (nle rfl) dX12_readSum_8 hC18 ?_
    show S0 X _ s7 11 [some (.ref (gh (xG X) + a0)), some (.int x1)] [.int q16, .ref (gh (xG X) + a0)] _
    refine s_bind (fun q19 hq20 => ?_)
    have hC21 := t_X12_takes0 (l := xl X) (G := xG X) hq20
    refine s_callV (pc := 11) (As := [.int q16]) (st := []) (nlt rfl) (q := (RX12, TX12, 59)) rfl rfl o13 cl_X12_takes0 wi_X12_takes0 wl_X12_takes0 km_X12_240 rfl rfl (Nat.le_trans (nle rfl : _ ≤ 4) (Nat.le_add_right 4 _)) (nle rfl) (nle rfl) dX12_readSum_11 hC21 ?_
    have h22 := hC21.1 X
    have o23 := h22.ok o13
    show S0 X _ q19.1 14 [some (.ref (gh (xG X) + a0)), some (.int x1)] [.int q19.2] _
    refine s_join q19.1 (fun s25 : Mem => s25) 29 (fun s25 : Mem => [some (.ref (gh (xG X) + a0)), some (.int x1)]) (fun s25 : Mem => []) (fun s25 hs26 => ?_) (fun j24 hj27 => ?_)
    · show S0 X _ s25 29 [some (.ref (gh (xG X) + a0)), some (.int x1)] [] _
      have o28 := hs26.ok o23
      refine s_aload_n (pc := 29) 0 dX12_readSum_29 rfl rfl ?_
      refine s_iload_n (pc := 30) 1 dX12_readSum_30 rfl rfl ?_
      refine s_bind (fun q29 hq30 => ?_)
      have hC31 := hg_X12_readTerm X rfl rfl s25 a0 x1 q29 hq30
      refine s_callV (pc := 31) (As := [.int x1]) (st := []) (nlt rfl) (q := (RX12, TX12, 59)) rfl rfl o28 cl_X12_readTerm wi_X12_readTerm wl_X12_readTerm km_X12_282 rfl rfl (Nat.le_refl _) (nle rfl) (nle rfl) dX12_readSum_31 hC31 ?_
      have h32 := hC31.1 X
      have o33 := h32.ok o28
      show S0 X _ q29 34 [some (.ref (gh (xG X) + a0)), some (.int x1)] [] _
      refine s_goto (pc := 34) 5 dX12_readSum_34 rfl ?_
      exact s_drop (hT10 q29 (hs8.tr (h22.tr (hs26.tr h32)))) (And.intro rfl (And.intro rfl trivial))
    · refine s_ifne (pc := 14) 29 dX12_readSum_14 rfl ?_ ?_
      · exact s_drop (hj27 q19.1 Le.rf) (And.intro rfl (And.intro rfl trivial))
      · refine s_aload_n (pc := 17) 0 dX12_readSum_17 rfl rfl ?_
        refine s_bipush (pc := 18) 45 dX12_readSum_18 kb_45 ?_
        refine s_bind (fun q34 hq35 => ?_)
        have hC36 := t_X12_sign (l := xl X) (G := xG X) (M := q19.1) hq35
        refine s_callS (pc := 20) (As := [.int 45]) (st := [.ref (gh (xG X) + a0)]) cl_X12_sign wt_X12_sign km_X12_278 rfl rfl (Nat.le_trans (nle rfl : _ ≤ 4) (Nat.le_add_right 4 _)) (nle rfl) (nle rfl) dX12_readSum_20 hC36 ?_
        show S0 X _ q19.1 23 [some (.ref (gh (xG X) + a0)), some (.int x1)] [.int q34, .ref (gh (xG X) + a0)] _
        refine s_bind (fun q37 hq38 => ?_)
        have hC39 := t_X12_takes0 (l := xl X) (G := xG X) hq38
        refine s_callV (pc := 23) (As := [.int q34]) (st := []) (nlt rfl) (q := (RX12, TX12, 59)) rfl rfl o23 cl_X12_takes0 wi_X12_takes0 wl_X12_takes0 km_X12_240 rfl rfl (Nat.le_trans (nle rfl : _ ≤ 4) (Nat.le_add_right 4 _)) (nle rfl) (nle rfl) dX12_readSum_23 hC39 ?_
        have h40 := hC39.1 X
        have o41 := h40.ok o23
        show S0 X _ q37.1 26 [some (.ref (gh (xG X) + a0)), some (.int x1)] [.int q37.2] _
        refine s_ifeq (pc := 26) 37 dX12_readSum_26 rfl ?_ ?_
        · exact s_drop (hR12 q37.1 (hs8.tr (h22.tr h40))) trivial
        · exact s_drop (hj27 q37.1 h40) (And.intro rfl (And.intro rfl trivial))
noncomputable def b_X12_readTerm (g_X12_readPart : Mem → Nat → Int32 → Option Mem) (M : Mem) (a0 : Nat) (x1 : Int32) : Option Mem :=
  grd (okO M 12 a0) (Option.bind (g_X12_readPart M a0 x1) (fun q2 => Option.bind (loopO (σ := Mem) (ρ := Mem) (fun s7 => Option.bind (f_X12_sign 42) (fun q16 => Option.bind (f_X12_takes0 s7 a0 q16) (fun q19 => bv (fun (s25 : Mem) => Option.bind (g_X12_readPart s25 a0 x1) (fun q29 => some (.inl q29))) (fun j24 => if q19.2 = 0 then (Option.bind (f_X12_sign 47) (fun q34 => Option.bind (f_X12_takes0 q19.1 a0 q34) (fun q37 => if q37.2 = 0 then (Option.bind (f_X12_sign 37) (fun q42 => Option.bind (f_X12_takes0 q37.1 a0 q42) (fun q45 => if q45.2 = 0 then (some (.inr q45.1)) else (j24 q45.1)))) else (j24 q37.1)))) else (j24 q19.1))))) q2) (fun (x14 : Mem) => some x14)))
abbrev Y_X12_readTerm (d : Nat) : Sta := (RX12, "readTerm", cX12_readTerm, 2, none, 4 + d)
set_option maxRecDepth 100000 in
set_option maxHeartbeats 8000000 in
theorem t_X12_readTerm {d : Nat} {g_X12_readPart : Mem → Nat → Int32 → Option Mem} {l : Launch} {G : Gh} {M : Mem} {a0 : Nat} {x1 : Int32} {q : Mem} (hg_X12_readPart : ∀ X : Ctx, xG X = G → xl X = l → ∀ (M : Mem) (a0 : Nat) (x1 : Int32) (q : Mem), g_X12_readPart M a0 x1 = some q → Ctr (xl X) (xG X) yX12_readPart (Y_X12_readPart d) M [.ref (gh (xG X) + a0), .int x1] q (none)) (h : b_X12_readTerm g_X12_readPart M a0 x1 = some q) : Ctr l G yX12_readTerm (Y_X12_readTerm (d + 1)) M [.ref (gh G + a0), .int x1] q (none) := by
  refine Ctr.of (Y := (Y_X12_readTerm (d + 1))) (L := [some (.ref (gh G + a0)), some (.int x1)]) (t := Option.bind (b_X12_readTerm g_X12_readPart M a0 x1) (fun q => some (q, (none : Option Value)))) (by decide) rfl rfl (nle rfl) (Lof_in 0 _ rfl) (fun X hG hl => ?_) (by rw [h]; rfl)
  subst hG
  subst hl
  unfold b_X12_readTerm
  refine s_aload_n (pc := 0) 0 dX12_readTerm_0 rfl rfl ?_
  refine s_iload_n (pc := 1) 1 dX12_readTerm_1 rfl rfl ?_
  refine s_grd (fun o1 => ?_)
  refine s_bind (fun q2 hq3 => ?_)
  have hC4 := hg_X12_readPart X rfl rfl M a0 x1 q2 hq3
  refine s_callV (pc := 2) (As := [.int x1]) (st := []) (nlt rfl) (q := (RX12, TX12, 59)) rfl rfl o1 cl_X12_readPart wi_X12_readPart wl_X12_readPart km_X12_285 rfl rfl (Nat.le_refl _) (nle rfl) (nle rfl) dX12_readTerm_2 hC4 ?_
  have h5 := hC4.1 X
  have o6 := h5.ok o1
  show S0 X _ q2 5 [some (.ref (gh (xG X) + a0)), some (.int x1)] [] _
  refine s_drop (L' := [some (.ref (gh (xG X) + a0)), some (.int x1)]) ?_ (And.intro rfl (And.intro rfl trivial))
  refine s_loop1 q2 (fun s7 : Mem => s7) (fun s7 : Mem => [some (.ref (gh (xG X) + a0)), some (.int x1)]) (fun x14 : Mem => x14) 49 (fun x14 : Mem => [none, none]) (fun x14 hx15 => ?_) (fun T9 R11 hT10 hR12 s7 hs8 => ?_) q2 Le.rf
  · show S0 X _ x14 49 [none, none] [] _
    exact s_vret rfl dX12_readTerm_49
  · show S0 X _ s7 5 [some (.ref (gh (xG X) + a0)), some (.int x1)] [] _
    have o13 := hs8.ok o6
    refine s_aload_n (pc := 5) 0 dX12_readTerm_5 rfl rfl ?_
    refine s_bipush (pc := 6) 42 dX12_readTerm_6 kb_42 ?_
    refine s_bind (fun q16 hq17 => ?_)
    have hC18 := t_X12_sign (l := xl X) (G := xG X) (M := s7) hq17
    refine s_callS (pc := 8) (As := [.int 42]) (st := [.ref (gh (xG X) + a0)]) cl_X12_sign wt_X12_sign km_X12_278 rfl rfl (Nat.le_trans (nle rfl : _ ≤ 4) (Nat.le_add_right 4 _)) (nle rfl) (nle rfl) dX12_readTerm_8 hC18 ?_
    show S0 X _ s7 11 [some (.ref (gh (xG X) + a0)), some (.int x1)] [.int q16, .ref (gh (xG X) + a0)] _
    refine s_bind (fun q19 hq20 => ?_)
    have hC21 := t_X12_takes0 (l := xl X) (G := xG X) hq20
    refine s_callV (pc := 11) (As := [.int q16]) (st := []) (nlt rfl) (q := (RX12, TX12, 59)) rfl rfl o13 cl_X12_takes0 wi_X12_takes0 wl_X12_takes0 km_X12_240 rfl rfl (Nat.le_trans (nle rfl : _ ≤ 4) (Nat.le_add_right 4 _)) (nle rfl) (nle rfl) dX12_readTerm_11 hC21 ?_
    have h22 := hC21.1 X
    have o23 := h22.ok o13
    show S0 X _ q19.1 14 [some (.ref (gh (xG X) + a0)), some (.int x1)] [.int q19.2] _
    refine s_join q19.1 (fun s25 : Mem => s25) 41 (fun s25 : Mem => [some (.ref (gh (xG X) + a0)), some (.int x1)]) (fun s25 : Mem => []) (fun s25 hs26 => ?_) (fun j24 hj27 => ?_)
    · show S0 X _ s25 41 [some (.ref (gh (xG X) + a0)), some (.int x1)] [] _
      have o28 := hs26.ok o23
      refine s_aload_n (pc := 41) 0 dX12_readTerm_41 rfl rfl ?_
      refine s_iload_n (pc := 42) 1 dX12_readTerm_42 rfl rfl ?_
      refine s_bind (fun q29 hq30 => ?_)
      have hC31 := hg_X12_readPart X rfl rfl s25 a0 x1 q29 hq30
      refine s_callV (pc := 43) (As := [.int x1]) (st := []) (nlt rfl) (q := (RX12, TX12, 59)) rfl rfl o28 cl_X12_readPart wi_X12_readPart wl_X12_readPart km_X12_285 rfl rfl (Nat.le_refl _) (nle rfl) (nle rfl) dX12_readTerm_43 hC31 ?_
      have h32 := hC31.1 X
      have o33 := h32.ok o28
      show S0 X _ q29 46 [some (.ref (gh (xG X) + a0)), some (.int x1)] [] _
      refine s_goto (pc := 46) 5 dX12_readTerm_46 rfl ?_
      exact s_drop (hT10 q29 (hs8.tr (h22.tr (hs26.tr h32)))) (And.intro rfl (And.intro rfl trivial))
    · refine s_ifne (pc := 14) 41 dX12_readTerm_14 rfl ?_ ?_
      · exact s_drop (hj27 q19.1 Le.rf) (And.intro rfl (And.intro rfl trivial))
      · refine s_aload_n (pc := 17) 0 dX12_readTerm_17 rfl rfl ?_
        refine s_bipush (pc := 18) 47 dX12_readTerm_18 kb_47 ?_
        refine s_bind (fun q34 hq35 => ?_)
        have hC36 := t_X12_sign (l := xl X) (G := xG X) (M := q19.1) hq35
        refine s_callS (pc := 20) (As := [.int 47]) (st := [.ref (gh (xG X) + a0)]) cl_X12_sign wt_X12_sign km_X12_278 rfl rfl (Nat.le_trans (nle rfl : _ ≤ 4) (Nat.le_add_right 4 _)) (nle rfl) (nle rfl) dX12_readTerm_20 hC36 ?_
        show S0 X _ q19.1 23 [some (.ref (gh (xG X) + a0)), some (.int x1)] [.int q34, .ref (gh (xG X) + a0)] _
        refine s_bind (fun q37 hq38 => ?_)
        have hC39 := t_X12_takes0 (l := xl X) (G := xG X) hq38
        refine s_callV (pc := 23) (As := [.int q34]) (st := []) (nlt rfl) (q := (RX12, TX12, 59)) rfl rfl o23 cl_X12_takes0 wi_X12_takes0 wl_X12_takes0 km_X12_240 rfl rfl (Nat.le_trans (nle rfl : _ ≤ 4) (Nat.le_add_right 4 _)) (nle rfl) (nle rfl) dX12_readTerm_23 hC39 ?_
        have h40 := hC39.1 X
        have o41 := h40.ok o23
        show S0 X _ q37.1 26 [some (.ref (gh (xG X) + a0)), some (.int x1)] [.int q37.2] _
        refine s_ifne (pc := 26) 41 dX12_readTerm_26 rfl ?_ ?_
        · exact s_drop (hj27 q37.1 h40) (And.intro rfl (And.intro rfl trivial))
        · refine s_aload_n (pc := 29) 0 dX12_readTerm_29 rfl rfl ?_
          refine s_bipush (pc := 30) 37 dX12_readTerm_30 kb_37 ?_
          refine s_bind (fun q42 hq43 => ?_)
          have hC44 := t_X12_sign (l := xl X) (G := xG X) (M := q37.1) hq43
          refine s_callS (pc := 32) (As := [.int 37]) (st := [.ref (gh (xG X) + a0)]) cl_X12_sign wt_X12_sign km_X12_278 rfl rfl (Nat.le_trans (nle rfl : _ ≤ 4) (Nat.le_add_right 4 _)) (nle rfl) (nle rfl) dX12_readTerm_32 hC44 ?_
          show S0 X _ q37.1 35 [some (.ref (gh (xG X) + a0)), some (.int x1)] [.int q42, .ref (gh (xG X) + a0)] _
          refine s_bind (fun q45 hq46 => ?_)
          have hC47 := t_X12_takes0 (l := xl X) (G := xG X) hq46
          refine s_callV (pc := 35) (As := [.int q42]) (st := []) (nlt rfl) (q := (RX12, TX12, 59)) rfl rfl o41 cl_X12_takes0 wi_X12_takes0 wl_X12_takes0 km_X12_240 rfl rfl (Nat.le_trans (nle rfl : _ ≤ 4) (Nat.le_add_right 4 _)) (nle rfl) (nle rfl) dX12_readTerm_35 hC47 ?_
          have h48 := hC47.1 X
          have o49 := h48.ok o41
          show S0 X _ q45.1 38 [some (.ref (gh (xG X) + a0)), some (.int x1)] [.int q45.2] _
          refine s_ifeq (pc := 38) 49 dX12_readTerm_38 rfl ?_ ?_
          · exact s_drop (hR12 q45.1 (hs8.tr (h22.tr (h40.tr h48)))) trivial
          · exact s_drop (hj27 q45.1 (h40.tr h48)) (And.intro rfl (And.intro rfl trivial))
noncomputable def G_X12_readPart : Nat → (Mem → Nat → Int32 → Option Mem) × (Mem → Nat → Int32 → Option Mem) × (Mem → Nat → Int32 → Option Mem)
  | 0 => ((fun _ _ _ => none), (fun _ _ _ => none), (fun _ _ _ => none))
  | d + 1 => (b_X12_readPart ((G_X12_readPart d).2.1), b_X12_readSum ((G_X12_readPart d).2.2), b_X12_readTerm ((G_X12_readPart d).1))
noncomputable def f_X12_readPart (d : Nat) : Mem → Nat → Int32 → Option Mem := (G_X12_readPart d).1
noncomputable def f_X12_readSum (d : Nat) : Mem → Nat → Int32 → Option Mem := (G_X12_readPart d).2.1
noncomputable def f_X12_readTerm (d : Nat) : Mem → Nat → Int32 → Option Mem := (G_X12_readPart d).2.2
theorem tg_X12_readPart {l : Launch} {G : Gh} : ∀ d : Nat, (∀ (M : Mem) (a0 : Nat) (x1 : Int32) (q : Mem), f_X12_readPart d M a0 x1 = some q → Ctr l G yX12_readPart (Y_X12_readPart d) M [.ref (gh G + a0), .int x1] q (none)) ∧ (∀ (M : Mem) (a0 : Nat) (x1 : Int32) (q : Mem), f_X12_readSum d M a0 x1 = some q → Ctr l G yX12_readSum (Y_X12_readSum d) M [.ref (gh G + a0), .int x1] q (none)) ∧ (∀ (M : Mem) (a0 : Nat) (x1 : Int32) (q : Mem), f_X12_readTerm d M a0 x1 = some q → Ctr l G yX12_readTerm (Y_X12_readTerm d) M [.ref (gh G + a0), .int x1] q (none)) := by
  intro d
  induction d with
  | zero => refine ⟨?_, ?_, ?_⟩ <;> (intros; rename_i h; cases h)
  | succ d ih =>
    obtain ⟨h0, h1, h2⟩ := ih
    refine ⟨?_, ?_, ?_⟩
    · intro M a0 x1 q h
      exact t_X12_readPart (fun X hG hl => by subst hG; subst hl; exact h1) h
    · intro M a0 x1 q h
      exact t_X12_readSum (fun X hG hl => by subst hG; subst hl; exact h2) h
    · intro M a0 x1 q h
      exact t_X12_readTerm (fun X hG hl => by subst hG; subst hl; exact h0) h
theorem tf_X12_readPart {l : Launch} {G : Gh} {M : Mem} {a0 : Nat} {x1 : Int32} {q : Mem} (h : f_X12_readPart 100 M a0 x1 = some q) : Ctr l G yX12_readPart (Y_X12_readPart 100) M [.ref (gh G + a0), .int x1] q (none) := (tg_X12_readPart 100).1 _ _ _ _ h
theorem tf_X12_readSum {l : Launch} {G : Gh} {M : Mem} {a0 : Nat} {x1 : Int32} {q : Mem} (h : f_X12_readSum 100 M a0 x1 = some q) : Ctr l G yX12_readSum (Y_X12_readSum 100) M [.ref (gh G + a0), .int x1] q (none) := (tg_X12_readPart 100).2.1 _ _ _ _ h
theorem tf_X12_readTerm {l : Launch} {G : Gh} {M : Mem} {a0 : Nat} {x1 : Int32} {q : Mem} (h : f_X12_readTerm 100 M a0 x1 = some q) : Ctr l G yX12_readTerm (Y_X12_readTerm 100) M [.ref (gh G + a0), .int x1] q (none) := (tg_X12_readPart 100).2.2 _ _ _ _ h
noncomputable def f_X12_tastings (M : Mem) (a0 : Nat) (x1 : Int32) (x2 : Int32) : Option Int32 :=
  grd (okO M 12 a0) (Option.bind (f_X12_areHouses M a0 x1) (fun q2 => if q2 = 0 then (some (-1)) else (Option.bind (f_X12_lies x2 0 3) (fun q5 => if q5 = 0 then (some (-1)) else (Option.bind (f_X12_groups M a0 x1 63) (fun q8 => Option.bind (loopO (σ := Int32 × Int32 × Int32) (ρ := Int32 × Int32) (fun s11 => if 64 ≤ s11.2.2 then (some (.inr (s11.1, s11.2.1))) else (Option.bind (f_X12_groups M a0 x1 s11.2.2) (fun q19 => bv (fun (s23 : Int32 × Int32) => bv (s11.2.2 + 1 : Int32) (fun x26 => some (.inl (s23.1, s23.2, x26)))) (fun j22 => if q19 < q8 then (j22 (s11.1, s11.2.1)) else (bv (fun (s28 : Unit) => bv (fun (s32 : Int32 × Int32) => bv (s32.2 + 1 : Int32) (fun x35 => j22 (s32.1, x35))) (fun j31 => bv (fun (s37 : Unit) => j31 (s11.2.2, 0)) (fun j36 => if s11.1 = (-1) then (j36 ()) else (Option.bind (f_X12_ones s11.2.2) (fun q40 => Option.bind (f_X12_ones s11.1) (fun q43 => if q43 ≤ q40 then (j31 (s11.1, s11.2.1)) else (j36 ()))))))) (fun j27 => if s11.1 = (-1) then (j27 ()) else (Option.bind (f_X12_ones s11.2.2) (fun q46 => Option.bind (f_X12_ones s11.1) (fun q49 => if q46 ≤ q49 then (j27 ()) else (j22 (s11.1, s11.2.1))))))))))) ((-1), 0, 0)) (fun (x17 : Int32 × Int32) => if x2 = 0 then (Option.bind (f_X12_ones x17.1) (fun q52 => some q52)) else (if x2 = 1 then (some x17.1) else (if x2 = 2 then (some x17.2) else (some q8))))))))))
abbrev Y_X12_tastings : Sta := (RX12, "tastings", cX12_tastings, 7, (some .int), 4)
set_option maxRecDepth 100000 in
set_option maxHeartbeats 8000000 in
theorem t_X12_tastings {l : Launch} {G : Gh} {M : Mem} {a0 : Nat} {x1 : Int32} {x2 : Int32} {q : Int32} (h : f_X12_tastings M a0 x1 x2 = some q) : Ctr l G yX12_tastings Y_X12_tastings M [.ref (gh G + a0), .int x1, .int x2] M (some (.int q)) := by
  refine Ctr.of (Y := Y_X12_tastings) (L := [some (.ref (gh G + a0)), some (.int x1), some (.int x2), none, none, none, none]) (t := Option.bind (f_X12_tastings M a0 x1 x2) (fun q => some (M, some (.int q)))) (by decide) rfl rfl (nle rfl) (Lof_in 4 _ rfl) (fun X hG hl => ?_) (by rw [h]; rfl)
  subst hG
  subst hl
  unfold f_X12_tastings
  refine s_aload_n (pc := 0) 0 dX12_tastings_0 rfl rfl ?_
  refine s_iload_n (pc := 1) 1 dX12_tastings_1 rfl rfl ?_
  refine s_grd (fun o1 => ?_)
  refine s_bind (fun q2 hq3 => ?_)
  have hC4 := t_X12_areHouses (l := xl X) (G := xG X) hq3
  refine s_callV (pc := 2) (As := [.int x1]) (st := []) (nlt rfl) (q := (RX12, TX12, 59)) rfl rfl o1 cl_X12_areHouses wi_X12_areHouses wl_X12_areHouses km_X12_387 rfl rfl (nle rfl) (nle rfl) (nle rfl) dX12_tastings_2 hC4 ?_
  show S0 X _ M 5 [some (.ref (gh (xG X) + a0)), some (.int x1), some (.int x2), none, none, none, none] [.int q2] _
  refine s_ifeq (pc := 5) 17 dX12_tastings_5 rfl ?_ ?_
  · refine s_iconst (pc := 17) (-1) dX12_tastings_17 kc_m1 ?_
    exact s_iret rfl dX12_tastings_18
  · refine s_iload_n (pc := 8) 2 dX12_tastings_8 rfl rfl ?_
    refine s_iconst (pc := 9) 0 dX12_tastings_9 kc_0 ?_
    refine s_iconst (pc := 10) 3 dX12_tastings_10 kc_3 ?_
    refine s_bind (fun q5 hq6 => ?_)
    have hC7 := t_X12_lies (l := xl X) (G := xG X) (M := M) hq6
    refine s_callS (pc := 11) (As := [.int x2, .int 0, .int 3]) (st := []) cl_X12_lies wt_X12_lies km_X12_123 rfl rfl (nle rfl) (nle rfl) (nle rfl) dX12_tastings_11 hC7 ?_
    show S0 X _ M 14 [some (.ref (gh (xG X) + a0)), some (.int x1), some (.int x2), none, none, none, none] [.int q5] _
    refine s_ifne (pc := 14) 19 dX12_tastings_14 rfl ?_ ?_
    · refine s_aload_n (pc := 19) 0 dX12_tastings_19 rfl rfl ?_
      refine s_iload_n (pc := 20) 1 dX12_tastings_20 rfl rfl ?_
      refine s_bipush (pc := 21) 63 dX12_tastings_21 kb_63 ?_
      refine s_bind (fun q8 hq9 => ?_)
      have hC10 := t_X12_groups (l := xl X) (G := xG X) hq9
      refine s_callV (pc := 23) (As := [.int x1, .int 63]) (st := []) (nlt rfl) (q := (RX12, TX12, 59)) rfl rfl o1 cl_X12_groups wi_X12_groups wl_X12_groups km_X12_410 rfl rfl (nle rfl) (nle rfl) (nle rfl) dX12_tastings_23 hC10 ?_
      show S0 X _ M 26 [some (.ref (gh (xG X) + a0)), some (.int x1), some (.int x2), none, none, none, none] [.int q8] _
      refine s_istore_n (pc := 26) 3 dX12_tastings_26 rfl (nlt rfl) rfl (L' := [some (.ref (gh (xG X) + a0)), some (.int x1), some (.int x2), some (.int q8), none, none, none]) rfl ?_
      refine s_iconst (pc := 27) (-1) dX12_tastings_27 kc_m1 ?_
      refine s_istore (pc := 28) dX12_tastings_28 (nlt rfl) rfl (L' := [some (.ref (gh (xG X) + a0)), some (.int x1), some (.int x2), some (.int q8), some (.int (-1)), none, none]) rfl ?_
      refine s_iconst (pc := 30) 0 dX12_tastings_30 kc_0 ?_
      refine s_istore (pc := 31) dX12_tastings_31 (nlt rfl) rfl (L' := [some (.ref (gh (xG X) + a0)), some (.int x1), some (.int x2), some (.int q8), some (.int (-1)), some (.int 0), none]) rfl ?_
      refine s_iconst (pc := 33) 0 dX12_tastings_33 kc_0 ?_
      refine s_istore (pc := 34) dX12_tastings_34 (nlt rfl) rfl (L' := [some (.ref (gh (xG X) + a0)), some (.int x1), some (.int x2), some (.int q8), some (.int (-1)), some (.int 0), some (.int 0)]) rfl ?_
      refine s_drop (L' := [some (.ref (gh (xG X) + a0)), some (.int x1), some (.int x2), some (.int q8), some (.int (-1)), some (.int 0), some (.int 0)]) ?_ (And.intro rfl (And.intro rfl (And.intro rfl (And.intro rfl (And.intro rfl (And.intro rfl (And.intro rfl trivial)))))))
      refine s_loop1 M (fun s11 : Int32 × Int32 × Int32 => M) (fun s11 : Int32 × Int32 × Int32 => [some (.ref (gh (xG X) + a0)), some (.int x1), some (.int x2), some (.int q8), some (.int s11.1), some (.int s11.2.1), some (.int s11.2.2)]) (fun x17 : Int32 × Int32 => M) 111 (fun x17 : Int32 × Int32 => [none, none, some (.int x2), some (.int q8), some (.int x17.1), some (.int x17.2), none]) (fun x17 hx18 => ?_) (fun T13 R15 hT14 hR16 s11 hs12 => ?_) ((-1), 0, 0) Le.rf
      · show S0 X _ M 111 [none, none, some (.int x2), some (.int q8), some (.int x17.1), some (.int x17.2), none] [] _
        refine s_iload_n (pc := 111) 2 dX12_tastings_111 rfl rfl ?_
        refine s_ifne (pc := 112) 123 dX12_tastings_112 rfl ?_ ?_
        · refine s_iload_n (pc := 123) 2 dX12_tastings_123 rfl rfl ?_
          refine s_iconst (pc := 124) 1 dX12_tastings_124 kc_1 ?_
          refine s_icne (pc := 125) 133 dX12_tastings_125 rfl ?_ ?_
          · refine s_iload_n (pc := 133) 2 dX12_tastings_133 rfl rfl ?_
            refine s_iconst (pc := 134) 2 dX12_tastings_134 kc_2 ?_
            refine s_icne (pc := 135) 143 dX12_tastings_135 rfl ?_ ?_
            · refine s_iload_n (pc := 143) 3 dX12_tastings_143 rfl rfl ?_
              exact s_iret rfl dX12_tastings_144
            · refine s_iload (pc := 138) dX12_tastings_138 rfl ?_
              refine s_goto (pc := 140) 144 dX12_tastings_140 rfl ?_
              exact s_iret rfl dX12_tastings_144
          · refine s_iload (pc := 128) dX12_tastings_128 rfl ?_
            refine s_goto (pc := 130) 144 dX12_tastings_130 rfl ?_
            exact s_iret rfl dX12_tastings_144
        · refine s_iload (pc := 115) dX12_tastings_115 rfl ?_
          refine s_bind (fun q52 hq53 => ?_)
          have hC54 := t_X12_ones (l := xl X) (G := xG X) (M := M) hq53
          refine s_callS (pc := 117) (As := [.int x17.1]) (st := []) cl_X12_ones wt_X12_ones km_X12_396 rfl rfl (nle rfl) (nle rfl) (nle rfl) dX12_tastings_117 hC54 ?_
          show S0 X _ M 120 [none, none, some (.int x2), some (.int q8), some (.int x17.1), some (.int x17.2), none] [.int q52] _
          refine s_goto (pc := 120) 144 dX12_tastings_120 rfl ?_
          exact s_iret rfl dX12_tastings_144
      · show S0 X _ M 36 [some (.ref (gh (xG X) + a0)), some (.int x1), some (.int x2), some (.int q8), some (.int s11.1), some (.int s11.2.1), some (.int s11.2.2)] [] _
        refine s_iload (pc := 36) dX12_tastings_36 rfl ?_
        refine s_bipush (pc := 38) 64 dX12_tastings_38 kb_64 ?_
        refine s_icge (pc := 40) 111 dX12_tastings_40 rfl ?_ ?_
        · exact s_drop (hR16 (s11.1, s11.2.1) Le.rf) (And.intro rfl (And.intro rfl (And.intro rfl (And.intro rfl trivial))))
        · refine s_aload_n (pc := 43) 0 dX12_tastings_43 rfl rfl ?_
          refine s_iload_n (pc := 44) 1 dX12_tastings_44 rfl rfl ?_
          refine s_iload (pc := 45) dX12_tastings_45 rfl ?_
          refine s_bind (fun q19 hq20 => ?_)
          have hC21 := t_X12_groups (l := xl X) (G := xG X) hq20
          refine s_callV (pc := 47) (As := [.int x1, .int s11.2.2]) (st := []) (nlt rfl) (q := (RX12, TX12, 59)) rfl rfl o1 cl_X12_groups wi_X12_groups wl_X12_groups km_X12_410 rfl rfl (nle rfl) (nle rfl) (nle rfl) dX12_tastings_47 hC21 ?_
          show S0 X _ M 50 [some (.ref (gh (xG X) + a0)), some (.int x1), some (.int x2), some (.int q8), some (.int s11.1), some (.int s11.2.1), some (.int s11.2.2)] [.int q19] _
          refine s_iload_n (pc := 50) 3 dX12_tastings_50 rfl rfl ?_
          refine s_join M (fun s23 : Int32 × Int32 => M) 105 (fun s23 : Int32 × Int32 => [some (.ref (gh (xG X) + a0)), some (.int x1), some (.int x2), some (.int q8), some (.int s23.1), some (.int s23.2), some (.int s11.2.2)]) (fun s23 : Int32 × Int32 => []) (fun s23 hs24 => ?_) (fun j22 hj25 => ?_)
          · show S0 X _ M 105 [some (.ref (gh (xG X) + a0)), some (.int x1), some (.int x2), some (.int q8), some (.int s23.1), some (.int s23.2), some (.int s11.2.2)] [] _
            refine s_iinc (pc := 105) dX12_tastings_105 rfl (v := s11.2.2 + 1) (congrArg (fun z : Int32 => s11.2.2 + z) kc_1) (nlt rfl) rfl (L' := [some (.ref (gh (xG X) + a0)), some (.int x1), some (.int x2), some (.int q8), some (.int s23.1), some (.int s23.2), some (.int (s11.2.2 + 1))]) rfl ?_
            refine s_bv (fun x26 : Int32 => [some (.ref (gh (xG X) + a0)), some (.int x1), some (.int x2), some (.int q8), some (.int s23.1), some (.int s23.2), some (.int x26)]) (fun x26 => ?_) rfl
            refine s_goto (pc := 108) 36 dX12_tastings_108 rfl ?_
            exact s_drop (hT14 (s23.1, s23.2, x26) Le.rf) (And.intro rfl (And.intro rfl (And.intro rfl (And.intro rfl (And.intro rfl (And.intro rfl (And.intro rfl trivial)))))))
          · refine s_iclt (pc := 51) 105 dX12_tastings_51 rfl ?_ ?_
            · exact s_drop (hj25 (s11.1, s11.2.1) Le.rf) (And.intro rfl (And.intro rfl (And.intro rfl (And.intro rfl (And.intro rfl (And.intro rfl (And.intro rfl trivial)))))))
            · refine s_iload (pc := 54) dX12_tastings_54 rfl ?_
              refine s_iconst (pc := 56) (-1) dX12_tastings_56 kc_m1 ?_
              refine s_join M (fun s28 : Unit => M) 76 (fun s28 : Unit => [some (.ref (gh (xG X) + a0)), some (.int x1), some (.int x2), some (.int q8), some (.int s11.1), some (.int s11.2.1), some (.int s11.2.2)]) (fun s28 : Unit => []) (fun s28 hs29 => ?_) (fun j27 hj30 => ?_)
              · show S0 X _ M 76 [some (.ref (gh (xG X) + a0)), some (.int x1), some (.int x2), some (.int q8), some (.int s11.1), some (.int s11.2.1), some (.int s11.2.2)] [] _
                refine s_iload (pc := 76) dX12_tastings_76 rfl ?_
                refine s_iconst (pc := 78) (-1) dX12_tastings_78 kc_m1 ?_
                refine s_join M (fun s32 : Int32 × Int32 => M) 102 (fun s32 : Int32 × Int32 => [some (.ref (gh (xG X) + a0)), some (.int x1), some (.int x2), some (.int q8), some (.int s32.1), some (.int s32.2), some (.int s11.2.2)]) (fun s32 : Int32 × Int32 => []) (fun s32 hs33 => ?_) (fun j31 hj34 => ?_)
                · show S0 X _ M 102 [some (.ref (gh (xG X) + a0)), some (.int x1), some (.int x2), some (.int q8), some (.int s32.1), some (.int s32.2), some (.int s11.2.2)] [] _
                  refine s_iinc (pc := 102) dX12_tastings_102 rfl (v := s32.2 + 1) (congrArg (fun z : Int32 => s32.2 + z) kc_1) (nlt rfl) rfl (L' := [some (.ref (gh (xG X) + a0)), some (.int x1), some (.int x2), some (.int q8), some (.int s32.1), some (.int (s32.2 + 1)), some (.int s11.2.2)]) rfl ?_
                  refine s_bv (fun x35 : Int32 => [some (.ref (gh (xG X) + a0)), some (.int x1), some (.int x2), some (.int q8), some (.int s32.1), some (.int x35), some (.int s11.2.2)]) (fun x35 => ?_) rfl
                  exact s_drop (hj25 (s32.1, x35) Le.rf) (And.intro rfl (And.intro rfl (And.intro rfl (And.intro rfl (And.intro rfl (And.intro rfl (And.intro rfl trivial)))))))
                · refine s_join M (fun s37 : Unit => M) 95 (fun s37 : Unit => [some (.ref (gh (xG X) + a0)), some (.int x1), some (.int x2), some (.int q8), none, none, some (.int s11.2.2)]) (fun s37 : Unit => []) (fun s37 hs38 => ?_) (fun j36 hj39 => ?_)
                  · show S0 X _ M 95 [some (.ref (gh (xG X) + a0)), some (.int x1), some (.int x2), some (.int q8), none, none, some (.int s11.2.2)] [] _
                    refine s_iload (pc := 95) dX12_tastings_95 rfl ?_
                    refine s_istore (pc := 97) dX12_tastings_97 (nlt rfl) rfl (L' := [some (.ref (gh (xG X) + a0)), some (.int x1), some (.int x2), some (.int q8), some (.int s11.2.2), none, some (.int s11.2.2)]) rfl ?_
                    refine s_iconst (pc := 99) 0 dX12_tastings_99 kc_0 ?_
                    refine s_istore (pc := 100) dX12_tastings_100 (nlt rfl) rfl (L' := [some (.ref (gh (xG X) + a0)), some (.int x1), some (.int x2), some (.int q8), some (.int s11.2.2), some (.int 0), some (.int s11.2.2)]) rfl ?_
                    exact s_drop (hj34 (s11.2.2, 0) Le.rf) (And.intro rfl (And.intro rfl (And.intro rfl (And.intro rfl (And.intro rfl (And.intro rfl (And.intro rfl trivial)))))))
                  · refine s_iceq (pc := 79) 95 dX12_tastings_79 rfl ?_ ?_
                    · exact s_drop (hj39 () Le.rf) (And.intro rfl (And.intro rfl (And.intro rfl (And.intro rfl (And.intro rfl trivial)))))
                    · refine s_iload (pc := 82) dX12_tastings_82 rfl ?_
                      refine s_bind (fun q40 hq41 => ?_)
                      have hC42 := t_X12_ones (l := xl X) (G := xG X) (M := M) hq41
                      refine s_callS (pc := 84) (As := [.int s11.2.2]) (st := []) cl_X12_ones wt_X12_ones km_X12_396 rfl rfl (nle rfl) (nle rfl) (nle rfl) dX12_tastings_84 hC42 ?_
                      show S0 X _ M 87 [some (.ref (gh (xG X) + a0)), some (.int x1), some (.int x2), some (.int q8), some (.int s11.1), some (.int s11.2.1), some (.int s11.2.2)] [.int q40] _
                      refine s_iload (pc := 87) dX12_tastings_87 rfl ?_
                      refine s_bind (fun q43 hq44 => ?_)
                      have hC45 := t_X12_ones (l := xl X) (G := xG X) (M := M) hq44
                      refine s_callS (pc := 89) (As := [.int s11.1]) (st := [.int q40]) cl_X12_ones wt_X12_ones km_X12_396 rfl rfl (nle rfl) (nle rfl) (nle rfl) dX12_tastings_89 hC45 ?_
                      show S0 X _ M 92 [some (.ref (gh (xG X) + a0)), some (.int x1), some (.int x2), some (.int q8), some (.int s11.1), some (.int s11.2.1), some (.int s11.2.2)] [.int q43, .int q40] _
                      refine s_icge (pc := 92) 102 dX12_tastings_92 rfl ?_ ?_
                      · exact s_drop (hj34 (s11.1, s11.2.1) Le.rf) (And.intro rfl (And.intro rfl (And.intro rfl (And.intro rfl (And.intro rfl (And.intro rfl (And.intro rfl trivial)))))))
                      · exact s_drop (hj39 () Le.rf) (And.intro rfl (And.intro rfl (And.intro rfl (And.intro rfl (And.intro rfl trivial)))))
              · refine s_iceq (pc := 57) 76 dX12_tastings_57 rfl ?_ ?_
                · exact s_drop (hj30 () Le.rf) (And.intro rfl (And.intro rfl (And.intro rfl (And.intro rfl (And.intro rfl (And.intro rfl (And.intro rfl trivial)))))))
                · refine s_iload (pc := 60) dX12_tastings_60 rfl ?_
                  refine s_bind (fun q46 hq47 => ?_)
                  have hC48 := t_X12_ones (l := xl X) (G := xG X) (M := M) hq47
                  refine s_callS (pc := 62) (As := [.int s11.2.2]) (st := []) cl_X12_ones wt_X12_ones km_X12_396 rfl rfl (nle rfl) (nle rfl) (nle rfl) dX12_tastings_62 hC48 ?_
                  show S0 X _ M 65 [some (.ref (gh (xG X) + a0)), some (.int x1), some (.int x2), some (.int q8), some (.int s11.1), some (.int s11.2.1), some (.int s11.2.2)] [.int q46] _
                  refine s_iload (pc := 65) dX12_tastings_65 rfl ?_
                  refine s_bind (fun q49 hq50 => ?_)
                  have hC51 := t_X12_ones (l := xl X) (G := xG X) (M := M) hq50
                  refine s_callS (pc := 67) (As := [.int s11.1]) (st := [.int q46]) cl_X12_ones wt_X12_ones km_X12_396 rfl rfl (nle rfl) (nle rfl) (nle rfl) dX12_tastings_67 hC51 ?_
                  show S0 X _ M 70 [some (.ref (gh (xG X) + a0)), some (.int x1), some (.int x2), some (.int q8), some (.int s11.1), some (.int s11.2.1), some (.int s11.2.2)] [.int q49, .int q46] _
                  refine s_icle (pc := 70) 76 dX12_tastings_70 rfl ?_ ?_
                  · exact s_drop (hj30 () Le.rf) (And.intro rfl (And.intro rfl (And.intro rfl (And.intro rfl (And.intro rfl (And.intro rfl (And.intro rfl trivial)))))))
                  · refine s_goto (pc := 73) 105 dX12_tastings_73 rfl ?_
                    exact s_drop (hj25 (s11.1, s11.2.1) Le.rf) (And.intro rfl (And.intro rfl (And.intro rfl (And.intro rfl (And.intro rfl (And.intro rfl (And.intro rfl trivial)))))))
    · refine s_iconst (pc := 17) (-1) dX12_tastings_17 kc_m1 ?_
      exact s_iret rfl dX12_tastings_18
noncomputable def f_X8_weightOf (M : Mem) (a0 : Nat) (x1 : Int32) (x2 : Int32) (x3 : Int32) (x4 : Int32) (x5 : Int32) : Option (Mem × Int32) :=
  bv (fun (s2 : Unit) => grd (okO M 8 a0) (ncase (mR M a0 3) (some (M, 1)) (fun r6 => bv ((((((((x1 * 6) + x2) * 6) + x3) * 6) + x4) * 6) + x5 : Int32) (fun x7 => if x7 < 0 then (some (M, (-1))) else (if x7 < 6480 then (Option.bind (mR M a0 2) (fun r8 => grd (okO M 14 r8) (grd (vp_in x7 (mL M r8)) (bv (fun (s12 : Mem) => Option.bind (mR s12 a0 2) (fun r16 => grd (okO s12 14 r16) (grd (vp_in x7 (mL s12 r16)) (some (s12, ((mI s12 r16 x7.toNatClampNeg) &&& 127) - 1))))) (fun j11 => if (sr (mI M r8 x7.toNatClampNeg) 7) = (mI M a0 4) then (j11 M) else (Option.bind (mR M a0 1) (fun r19 => grd (okO M 3 r19) (Option.bind (mR M r19 0) (fun r21 => grd (okO M 14 r21) (grd (vp_in 0 (mL M r21)) (bv (wI M r21 (0 : Int32).toNatClampNeg x1) (fun M24 => grd (vp_in 1 (mL M24 r21)) (bv (wI M24 r21 (1 : Int32).toNatClampNeg x2) (fun M30 => grd (vp_in 2 (mL M30 r21)) (bv (wI M30 r21 (2 : Int32).toNatClampNeg x3) (fun M36 => grd (vp_in 3 (mL M36 r21)) (bv (wI M36 r21 (3 : Int32).toNatClampNeg x4) (fun M42 => grd (vp_in 4 (mL M42 r21)) (bv (wI M42 r21 (4 : Int32).toNatClampNeg x5) (fun M48 => Option.bind (mR M48 a0 0) (fun r53 => grd (okO M48 10 r53) (Option.bind (mR M48 r53 0) (fun r55 => grd (okO M48 14 r55) (grd (vp_in x2 (mL M48 r55)) (grd (vp_in 5 (mL M48 r21)) (bv (wI M48 r21 (5 : Int32).toNatClampNeg (mI M48 r55 x2.toNatClampNeg)) (fun M59 => grd (vp_in 6 (mL M59 r21)) (bv (wI M59 r21 (6 : Int32).toNatClampNeg (mI M59 a0 6)) (fun M65 => Option.bind (mR M65 a0 0) (fun r70 => grd (okO M65 10 r70) (grd (vp_in 7 (mL M65 r21)) (bv (wI M65 r21 (7 : Int32).toNatClampNeg (mI M65 r70 12)) (fun M73 => Option.bind (mR M73 a0 2) (fun r78 => Option.bind (f_X8_askLaw M73 a0) (fun q79 => grd (okO q79.1 14 r78) (grd (vp_in x7 (mL q79.1 r78)) (bv (wI q79.1 r78 x7.toNatClampNeg (((sl (mI M73 a0 4) 7) + q79.2) + 1)) (fun M87 => j11 M87)))))))))))))))))))))))))))))))))))))) else (some (M, (-1)))))))) (fun j1 => bv (fun (s93 : Unit) => grd (okO M 8 a0) (Option.bind (mR M a0 0) (fun r97 => grd (okO M 10 r97) (Option.bind (mR M r97 1) (fun r99 => grd (okO M 14 r99) (grd (vp_in x2 (mL M r99)) (if (mI M r99 x2.toNatClampNeg) = 0 then (some (M, (-1))) else (j1 ())))))))) (fun j92 => if x1 = 1 then (j92 ()) else (if x1 = 3 then (j92 ()) else (j1 ()))))
abbrev Y_X8_weightOf : Sta := (RX8, "weightOf", cX8_weightOf, 8, (some .int), 4)
set_option maxRecDepth 100000 in
set_option maxHeartbeats 8000000 in
theorem t_X8_weightOf {l : Launch} {G : Gh} {M : Mem} {a0 : Nat} {x1 : Int32} {x2 : Int32} {x3 : Int32} {x4 : Int32} {x5 : Int32} {q : Mem × Int32} (h : f_X8_weightOf M a0 x1 x2 x3 x4 x5 = some q) : Ctr l G yX8_weightOf Y_X8_weightOf M [.ref (gh G + a0), .int x1, .int x2, .int x3, .int x4, .int x5] q.1 (some (.int q.2)) := by
  refine Ctr.of (Y := Y_X8_weightOf) (L := [some (.ref (gh G + a0)), some (.int x1), some (.int x2), some (.int x3), some (.int x4), some (.int x5), none, none]) (t := Option.bind (f_X8_weightOf M a0 x1 x2 x3 x4 x5) (fun q => some (q.1, some (.int q.2)))) (by decide) rfl rfl (nle rfl) (Lof_in 2 _ rfl) (fun X hG hl => ?_) (by rw [h]; rfl)
  subst hG
  subst hl
  unfold f_X8_weightOf
  refine s_iload_n (pc := 0) 1 dX8_weightOf_0 rfl rfl ?_
  refine s_iconst (pc := 1) 1 dX8_weightOf_1 kc_1 ?_
  refine s_join M (fun s2 : Unit => M) 24 (fun s2 : Unit => [some (.ref (gh (xG X) + a0)), some (.int x1), some (.int x2), some (.int x3), some (.int x4), some (.int x5), none, none]) (fun s2 : Unit => []) (fun s2 hs3 => ?_) (fun j1 hj4 => ?_)
  · show S0 X _ M 24 [some (.ref (gh (xG X) + a0)), some (.int x1), some (.int x2), some (.int x3), some (.int x4), some (.int x5), none, none] [] _
    refine s_aload_n (pc := 24) 0 dX8_weightOf_24 rfl rfl ?_
    refine s_grd (fun o5 => ?_)
    refine s_geto (pc := 25) F_8 3 rfl o5 dX8_weightOf_25 kf_X8_30 ?_
    refine s_rv ?_ (fun r6 => ?_)
    · refine s_nonnullF (pc := 28) dX8_weightOf_28 ?_
      refine s_iconst (pc := 31) 1 dX8_weightOf_31 kc_1 ?_
      exact s_iret rfl dX8_weightOf_32
    · refine s_nonnullT (pc := 28) 33 dX8_weightOf_28 rfl ?_
      refine s_iload_n (pc := 33) 1 dX8_weightOf_33 rfl rfl ?_
      refine s_bipush (pc := 34) 6 dX8_weightOf_34 kb_6 ?_
      refine s_imul (pc := 36) dX8_weightOf_36 ?_
      refine s_iload_n (pc := 37) 2 dX8_weightOf_37 rfl rfl ?_
      refine s_iadd (pc := 38) dX8_weightOf_38 ?_
      refine s_bipush (pc := 39) 6 dX8_weightOf_39 kb_6 ?_
      refine s_imul (pc := 41) dX8_weightOf_41 ?_
      refine s_iload_n (pc := 42) 3 dX8_weightOf_42 rfl rfl ?_
      refine s_iadd (pc := 43) dX8_weightOf_43 ?_
      refine s_bipush (pc := 44) 6 dX8_weightOf_44 kb_6 ?_
      refine s_imul (pc := 46) dX8_weightOf_46 ?_
      refine s_iload (pc := 47) dX8_weightOf_47 rfl ?_
      refine s_iadd (pc := 49) dX8_weightOf_49 ?_
      refine s_bipush (pc := 50) 6 dX8_weightOf_50 kb_6 ?_
      refine s_imul (pc := 52) dX8_weightOf_52 ?_
      refine s_iload (pc := 53) dX8_weightOf_53 rfl ?_
      refine s_iadd (pc := 55) dX8_weightOf_55 ?_
      refine s_istore (pc := 56) dX8_weightOf_56 (nlt rfl) rfl (L' := [some (.ref (gh (xG X) + a0)), some (.int x1), some (.int x2), some (.int x3), some (.int x4), some (.int x5), some (.int ((((((((x1 * 6) + x2) * 6) + x3) * 6) + x4) * 6) + x5)), none]) rfl ?_
      refine s_bv (fun x7 : Int32 => [some (.ref (gh (xG X) + a0)), some (.int x1), some (.int x2), some (.int x3), some (.int x4), some (.int x5), some (.int x7), none]) (fun x7 => ?_) rfl
      refine s_iload (pc := 58) dX8_weightOf_58 rfl ?_
      refine s_iflt (pc := 60) 71 dX8_weightOf_60 rfl ?_ ?_
      · refine s_iconst (pc := 71) (-1) dX8_weightOf_71 kc_m1 ?_
        exact s_iret rfl dX8_weightOf_72
      · refine s_iload (pc := 63) dX8_weightOf_63 rfl ?_
        refine s_sipush (pc := 65) 6480 dX8_weightOf_65 ks_6480 ?_
        refine s_iclt (pc := 68) 73 dX8_weightOf_68 rfl ?_ ?_
        · refine s_aload_n (pc := 73) 0 dX8_weightOf_73 rfl rfl ?_
          refine s_geto (pc := 74) F_8 2 rfl o5 dX8_weightOf_74 kf_X8_18 ?_
          refine s_rvB (fun r8 => ?_)
          refine s_iload (pc := 77) dX8_weightOf_77 rfl ?_
          refine s_grd (fun o9 => ?_)
          refine s_grd (fun i10 => ?_)
          refine s_iald (pc := 79) o9 i10 dX8_weightOf_79 ?_
          refine s_bipush (pc := 80) 7 dX8_weightOf_80 kb_7 ?_
          refine s_ishr (pc := 82) dX8_weightOf_82 ?_
          refine s_aload_n (pc := 83) 0 dX8_weightOf_83 rfl rfl ?_
          refine s_geti (pc := 84) F_8 4 rfl o5 dX8_weightOf_84 kf_X8_50 ?_
          refine s_join M (fun s12 : Mem => s12) 181 (fun s12 : Mem => [some (.ref (gh (xG X) + a0)), none, none, none, none, none, some (.int x7), none]) (fun s12 : Mem => []) (fun s12 hs13 => ?_) (fun j11 hj14 => ?_)
          · show S0 X _ s12 181 [some (.ref (gh (xG X) + a0)), none, none, none, none, none, some (.int x7), none] [] _
            have o15 := hs13.ok o5
            refine s_aload_n (pc := 181) 0 dX8_weightOf_181 rfl rfl ?_
            refine s_geto (pc := 182) F_8 2 rfl o15 dX8_weightOf_182 kf_X8_18 ?_
            refine s_rvB (fun r16 => ?_)
            refine s_iload (pc := 185) dX8_weightOf_185 rfl ?_
            refine s_grd (fun o17 => ?_)
            refine s_grd (fun i18 => ?_)
            refine s_iald (pc := 187) o17 i18 dX8_weightOf_187 ?_
            refine s_bipush (pc := 188) 127 dX8_weightOf_188 kb_127 ?_
            refine s_iand (pc := 190) dX8_weightOf_190 ?_
            refine s_iconst (pc := 191) 1 dX8_weightOf_191 kc_1 ?_
            refine s_isub (pc := 192) dX8_weightOf_192 ?_
            exact s_iret rfl dX8_weightOf_193
          · refine s_iceq (pc := 87) 181 dX8_weightOf_87 rfl ?_ ?_
            · exact s_drop (hj14 M Le.rf) (And.intro rfl (And.intro rfl trivial))
            · refine s_aload_n (pc := 90) 0 dX8_weightOf_90 rfl rfl ?_
              refine s_geto (pc := 91) F_8 1 rfl o5 dX8_weightOf_91 kf_X8_12 ?_
              refine s_rvB (fun r19 => ?_)
              refine s_grd (fun o20 => ?_)
              refine s_geto (pc := 94) F_3 0 rfl o20 dX8_weightOf_94 kf_X8_56 ?_
              refine s_rvB (fun r21 => ?_)
              refine s_astore (pc := 97) dX8_weightOf_97 (nlt rfl) rfl (L' := [some (.ref (gh (xG X) + a0)), some (.int x1), some (.int x2), some (.int x3), some (.int x4), some (.int x5), some (.int x7), some (.ref (gh (xG X) + r21))]) rfl ?_
              refine s_aload (pc := 99) dX8_weightOf_99 rfl ?_
              refine s_iconst (pc := 101) 0 dX8_weightOf_101 kc_0 ?_
              refine s_iload_n (pc := 102) 1 dX8_weightOf_102 rfl rfl ?_
              refine s_grd (fun o22 => ?_)
              refine s_grd (fun i23 => ?_)
              refine s_iast (pc := 103) o22 i23 dX8_weightOf_103 (fun M24 hM25 => ?_)
              have h26 := le_wI hM25
              have o27 := h26.ok o5
              have o28 := h26.ok o22
              refine s_aload (pc := 104) dX8_weightOf_104 rfl ?_
              refine s_iconst (pc := 106) 1 dX8_weightOf_106 kc_1 ?_
              refine s_iload_n (pc := 107) 2 dX8_weightOf_107 rfl rfl ?_
              refine s_grd (fun i29 => ?_)
              refine s_iast (pc := 108) o28 i29 dX8_weightOf_108 (fun M30 hM31 => ?_)
              have h32 := le_wI hM31
              have o33 := h32.ok o27
              have o34 := h32.ok o28
              refine s_aload (pc := 109) dX8_weightOf_109 rfl ?_
              refine s_iconst (pc := 111) 2 dX8_weightOf_111 kc_2 ?_
              refine s_iload_n (pc := 112) 3 dX8_weightOf_112 rfl rfl ?_
              refine s_grd (fun i35 => ?_)
              refine s_iast (pc := 113) o34 i35 dX8_weightOf_113 (fun M36 hM37 => ?_)
              have h38 := le_wI hM37
              have o39 := h38.ok o33
              have o40 := h38.ok o34
              refine s_aload (pc := 114) dX8_weightOf_114 rfl ?_
              refine s_iconst (pc := 116) 3 dX8_weightOf_116 kc_3 ?_
              refine s_iload (pc := 117) dX8_weightOf_117 rfl ?_
              refine s_grd (fun i41 => ?_)
              refine s_iast (pc := 119) o40 i41 dX8_weightOf_119 (fun M42 hM43 => ?_)
              have h44 := le_wI hM43
              have o45 := h44.ok o39
              have o46 := h44.ok o40
              refine s_aload (pc := 120) dX8_weightOf_120 rfl ?_
              refine s_iconst (pc := 122) 4 dX8_weightOf_122 kc_4 ?_
              refine s_iload (pc := 123) dX8_weightOf_123 rfl ?_
              refine s_grd (fun i47 => ?_)
              refine s_iast (pc := 125) o46 i47 dX8_weightOf_125 (fun M48 hM49 => ?_)
              have h50 := le_wI hM49
              have o51 := h50.ok o45
              have o52 := h50.ok o46
              refine s_aload (pc := 126) dX8_weightOf_126 rfl ?_
              refine s_iconst (pc := 128) 5 dX8_weightOf_128 kc_5 ?_
              refine s_aload_n (pc := 129) 0 dX8_weightOf_129 rfl rfl ?_
              refine s_geto (pc := 130) F_8 0 rfl o51 dX8_weightOf_130 kf_X8_22 ?_
              refine s_rvB (fun r53 => ?_)
              refine s_grd (fun o54 => ?_)
              refine s_getoN (pc := 133) F_10 0 rfl o54 dX8_weightOf_133 (List.mem_of_getElem? (i := 0) rfl) ?_
              refine s_rvB (fun r55 => ?_)
              refine s_iload_n (pc := 136) 2 dX8_weightOf_136 rfl rfl ?_
              refine s_grd (fun o56 => ?_)
              refine s_grd (fun i57 => ?_)
              refine s_iald (pc := 137) o56 i57 dX8_weightOf_137 ?_
              refine s_grd (fun i58 => ?_)
              refine s_iast (pc := 138) o52 i58 dX8_weightOf_138 (fun M59 hM60 => ?_)
              have h61 := le_wI hM60
              have o62 := h61.ok o51
              have o63 := h61.ok o52
              refine s_aload (pc := 139) dX8_weightOf_139 rfl ?_
              refine s_bipush (pc := 141) 6 dX8_weightOf_141 kb_6 ?_
              refine s_aload_n (pc := 143) 0 dX8_weightOf_143 rfl rfl ?_
              refine s_geti (pc := 144) F_8 6 rfl o62 dX8_weightOf_144 kf_X8_26 ?_
              refine s_grd (fun i64 => ?_)
              refine s_iast (pc := 147) o63 i64 dX8_weightOf_147 (fun M65 hM66 => ?_)
              have h67 := le_wI hM66
              have o68 := h67.ok o62
              have o69 := h67.ok o63
              refine s_aload (pc := 148) dX8_weightOf_148 rfl ?_
              refine s_bipush (pc := 150) 7 dX8_weightOf_150 kb_7 ?_
              refine s_aload_n (pc := 152) 0 dX8_weightOf_152 rfl rfl ?_
              refine s_geto (pc := 153) F_8 0 rfl o68 dX8_weightOf_153 kf_X8_22 ?_
              refine s_rvB (fun r70 => ?_)
              refine s_grd (fun o71 => ?_)
              refine s_getiN (pc := 156) F_10 12 rfl o71 dX8_weightOf_156 (List.mem_of_getElem? (i := 15) rfl) ?_
              refine s_grd (fun i72 => ?_)
              refine s_iast (pc := 159) o69 i72 dX8_weightOf_159 (fun M73 hM74 => ?_)
              have h75 := le_wI hM74
              have o76 := h75.ok o68
              have o77 := h75.ok o69
              refine s_aload_n (pc := 160) 0 dX8_weightOf_160 rfl rfl ?_
              refine s_geto (pc := 161) F_8 2 rfl o76 dX8_weightOf_161 kf_X8_18 ?_
              refine s_rvB (fun r78 => ?_)
              refine s_iload (pc := 164) dX8_weightOf_164 rfl ?_
              refine s_aload_n (pc := 166) 0 dX8_weightOf_166 rfl rfl ?_
              refine s_geti (pc := 167) F_8 4 rfl o76 dX8_weightOf_167 kf_X8_50 ?_
              refine s_bipush (pc := 170) 7 dX8_weightOf_170 kb_7 ?_
              refine s_ishl (pc := 172) dX8_weightOf_172 ?_
              refine s_aload_n (pc := 173) 0 dX8_weightOf_173 rfl rfl ?_
              refine s_bind (fun q79 hq80 => ?_)
              have hC81 := t_X8_askLaw (l := xl X) (G := xG X) hq80
              refine s_callV (pc := 174) (As := []) (st := [.int (sl (mI M73 a0 4) 7), .int x7, .ref (gh (xG X) + r78)]) (nlt rfl) (q := (RX8, TX8, 7)) rfl rfl o76 cl_X8_askLaw wi_X8_askLaw wl_X8_askLaw km_X8_65 rfl rfl (nle rfl) (nle rfl) (nle rfl) dX8_weightOf_174 hC81 ?_
              have h82 := hC81.1 X
              have o83 := h82.ok o76
              have o84 := h82.ok o77
              show S0 X _ q79.1 177 [some (.ref (gh (xG X) + a0)), some (.int x1), some (.int x2), some (.int x3), some (.int x4), some (.int x5), some (.int x7), some (.ref (gh (xG X) + r21))] [.int q79.2, .int (sl (mI M73 a0 4) 7), .int x7, .ref (gh (xG X) + r78)] _
              refine s_iadd (pc := 177) dX8_weightOf_177 ?_
              refine s_iconst (pc := 178) 1 dX8_weightOf_178 kc_1 ?_
              refine s_iadd (pc := 179) dX8_weightOf_179 ?_
              refine s_grd (fun o85 => ?_)
              refine s_grd (fun i86 => ?_)
              refine s_iast (pc := 180) o85 i86 dX8_weightOf_180 (fun M87 hM88 => ?_)
              have h89 := le_wI hM88
              have o90 := h89.ok o83
              have o91 := h89.ok o84
              exact s_drop (hj14 M87 (h26.tr (h32.tr (h38.tr (h44.tr (h50.tr (h61.tr (h67.tr (h75.tr (h82.tr h89)))))))))) (And.intro rfl (And.intro rfl trivial))
        · refine s_iconst (pc := 71) (-1) dX8_weightOf_71 kc_m1 ?_
          exact s_iret rfl dX8_weightOf_72
  · refine s_join M (fun s93 : Unit => M) 10 (fun s93 : Unit => [some (.ref (gh (xG X) + a0)), some (.int x1), some (.int x2), some (.int x3), some (.int x4), some (.int x5), none, none]) (fun s93 : Unit => []) (fun s93 hs94 => ?_) (fun j92 hj95 => ?_)
    · show S0 X _ M 10 [some (.ref (gh (xG X) + a0)), some (.int x1), some (.int x2), some (.int x3), some (.int x4), some (.int x5), none, none] [] _
      refine s_aload_n (pc := 10) 0 dX8_weightOf_10 rfl rfl ?_
      refine s_grd (fun o96 => ?_)
      refine s_geto (pc := 11) F_8 0 rfl o96 dX8_weightOf_11 kf_X8_22 ?_
      refine s_rvB (fun r97 => ?_)
      refine s_grd (fun o98 => ?_)
      refine s_getoN (pc := 14) F_10 1 rfl o98 dX8_weightOf_14 (List.mem_of_getElem? (i := 1) rfl) ?_
      refine s_rvB (fun r99 => ?_)
      refine s_iload_n (pc := 17) 2 dX8_weightOf_17 rfl rfl ?_
      refine s_grd (fun o100 => ?_)
      refine s_grd (fun i101 => ?_)
      refine s_iald (pc := 18) o100 i101 dX8_weightOf_18 ?_
      refine s_ifne (pc := 19) 24 dX8_weightOf_19 rfl ?_ ?_
      · exact s_drop (hj4 () Le.rf) (And.intro rfl (And.intro rfl (And.intro rfl (And.intro rfl (And.intro rfl (And.intro rfl trivial))))))
      · refine s_iconst (pc := 22) (-1) dX8_weightOf_22 kc_m1 ?_
        exact s_iret rfl dX8_weightOf_23
    · refine s_iceq (pc := 2) 10 dX8_weightOf_2 rfl ?_ ?_
      · exact s_drop (hj95 () Le.rf) (And.intro rfl (And.intro rfl (And.intro rfl (And.intro rfl (And.intro rfl (And.intro rfl trivial))))))
      · refine s_iload_n (pc := 5) 1 dX8_weightOf_5 rfl rfl ?_
        refine s_iconst (pc := 6) 3 dX8_weightOf_6 kc_3 ?_
        refine s_icne (pc := 7) 24 dX8_weightOf_7 rfl ?_ ?_
        · exact s_drop (hj4 () Le.rf) (And.intro rfl (And.intro rfl (And.intro rfl (And.intro rfl (And.intro rfl (And.intro rfl trivial))))))
        · exact s_drop (hj95 () Le.rf) (And.intro rfl (And.intro rfl (And.intro rfl (And.intro rfl (And.intro rfl (And.intro rfl trivial))))))
