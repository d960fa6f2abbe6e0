set_option maxRecDepth 100000 in
set_option maxHeartbeats 8000000 in
noncomputable def f_X3_apply (p0 : Int32) (p1 : Int64) (p3 : Int64) : Option Int64 :=
  bv (fun (s2 : Int64) => if 0 < (lg_cmp s2 1000000000) then (some (-4611686018427387904)) else (if 0 ≤ (lg_cmp s2 (-1000000000)) then (some s2) else (some (-4611686018427387904)))) (fun j1 => swO p0 (swC 3 [(44, bv (p1 + p3 : Int64) (fun x5 => j1 x5)), (52, bv (p1 - p3 : Int64) (fun x6 => j1 x6)), (60, bv (p1 * p3 : Int64) (fun x7 => j1 x7)), (68, bv (fun (s9 : Int64) => j1 s9) (fun j8 => if (lg_cmp p3 0) = 0 then (j8 (-4611686018427387904)) else (grd (¬ p3 = 0) (j8 (p1 / p3))))), (88, bv (fun (s14 : Int64) => j1 s14) (fun j13 => if (lg_cmp p3 0) = 0 then (j13 (-4611686018427387904)) else (grd (¬ p3 = 0) (j13 (lr p1 p3))))), (108, bv (fun (s19 : Int64) => j1 s19) (fun j18 => if 0 ≤ (lg_cmp p1 p3) then (j18 0) else (j18 1))), (124, bv (fun (s23 : Int64) => j1 s23) (fun j22 => if (lg_cmp p1 p3) ≤ 0 then (j22 0) else (j22 1)))]) (bv (fun (s27 : Int64) => j1 s27) (fun j26 => if (lg_cmp p1 p3) = 0 then (j26 1) else (j26 0))))
abbrev Y_X3_apply : Sta := (RX3, "apply", cX3_apply, 7, (some .long), 1)
set_option maxRecDepth 100000 in
set_option maxHeartbeats 8000000 in
theorem t_X3_apply {l : Launch} {G : Gh} {M : Mem} {p0 : Int32} {p1 : Int64} {p3 : Int64} {q : Int64} (h : f_X3_apply p0 p1 p3 = some q) : Ctr l G yX3_apply Y_X3_apply M [.int p0, .long p1, .long p3] M (some (.long q)) := by
  refine Ctr.of (Y := Y_X3_apply) (L := [some (.int p0), some (.long p1), none, some (.long p3), none, none, none]) (t := Option.bind (f_X3_apply p0 p1 p3) (fun q => some (M, some (.long q)))) (by decide) rfl rfl (nle rfl) (Lof_in 2 _ rfl) (fun X hG hl => ?_) (by rw [h]; rfl)
  subst hG
  subst hl
  unfold f_X3_apply
  refine s_iload_n (pc := 0) 0 dX3_apply_0 rfl rfl ?_
  refine s_join M (fun s2 : Int64 => M) 153 (fun s2 : Int64 => [none, none, none, none, none, some (.long s2), none]) (fun s2 : Int64 => []) (fun s2 hs3 => ?_) (fun j1 hj4 => ?_)
  · show S0 X _ M 153 [none, none, none, none, none, some (.long s2), none] [] _
    refine s_lload (pc := 153) dX3_apply_153 rfl ?_
    refine s_ldc2 (pc := 155) dX3_apply_155 kl_X3_31 ?_
    refine s_lcmp (pc := 158) dX3_apply_158 ?_
    refine s_ifgt (pc := 159) 171 dX3_apply_159 rfl ?_ ?_
    · refine s_ldc2 (pc := 171) dX3_apply_171 kl_X3_25 ?_
      refine s_goto (pc := 174) 179 dX3_apply_174 rfl ?_
      exact s_lret rfl dX3_apply_179
    · refine s_lload (pc := 162) dX3_apply_162 rfl ?_
      refine s_ldc2 (pc := 164) dX3_apply_164 kl_X3_33 ?_
      refine s_lcmp (pc := 167) dX3_apply_167 ?_
      refine s_ifge (pc := 168) 177 dX3_apply_168 rfl ?_ ?_
      · refine s_lload (pc := 177) dX3_apply_177 rfl ?_
        exact s_lret rfl dX3_apply_179
      · refine s_ldc2 (pc := 171) dX3_apply_171 kl_X3_25 ?_
        refine s_goto (pc := 174) 179 dX3_apply_174 rfl ?_
        exact s_lret rfl dX3_apply_179
  · refine s_tsw (pc := 1) _ 140 dX3_apply_1 rfl rfl (And.intro (by decide) (And.intro (by simp only [List.length_cons, List.length_nil]; decide) rfl)) ?_ ?_
    · refine (And.intro ?_ (And.intro ?_ (And.intro ?_ (And.intro ?_ (And.intro ?_ (And.intro ?_ (And.intro ?_ trivial)))))))
      · dsimp only
        refine s_lload_n (pc := 44) 1 dX3_apply_44 rfl rfl ?_
        refine s_lload_n (pc := 45) 3 dX3_apply_45 rfl rfl ?_
        refine s_ladd (pc := 46) dX3_apply_46 ?_
        refine s_lstore (pc := 47) dX3_apply_47 (nlt rfl) rfl (L' := [some (.int p0), some (.long p1), none, some (.long p3), none, some (.long (p1 + p3)), none]) rfl ?_
        refine s_bv (fun x5 : Int64 => [some (.int p0), some (.long p1), none, some (.long p3), none, some (.long x5), none]) (fun x5 => ?_) rfl
        refine s_goto (pc := 49) 153 dX3_apply_49 rfl ?_
        exact s_drop (hj4 x5 Le.rf) (And.intro rfl trivial)
      · dsimp only
        refine s_lload_n (pc := 52) 1 dX3_apply_52 rfl rfl ?_
        refine s_lload_n (pc := 53) 3 dX3_apply_53 rfl rfl ?_
        refine s_lsub (pc := 54) dX3_apply_54 ?_
        refine s_lstore (pc := 55) dX3_apply_55 (nlt rfl) rfl (L' := [some (.int p0), some (.long p1), none, some (.long p3), none, some (.long (p1 - p3)), none]) rfl ?_
        refine s_bv (fun x6 : Int64 => [some (.int p0), some (.long p1), none, some (.long p3), none, some (.long x6), none]) (fun x6 => ?_) rfl
        refine s_goto (pc := 57) 153 dX3_apply_57 rfl ?_
        exact s_drop (hj4 x6 Le.rf) (And.intro rfl trivial)
      · dsimp only
        refine s_lload_n (pc := 60) 1 dX3_apply_60 rfl rfl ?_
        refine s_lload_n (pc := 61) 3 dX3_apply_61 rfl rfl ?_
        refine s_lmul (pc := 62) dX3_apply_62 ?_
        refine s_lstore (pc := 63) dX3_apply_63 (nlt rfl) rfl (L' := [some (.int p0), some (.long p1), none, some (.long p3), none, some (.long (p1 * p3)), none]) rfl ?_
        refine s_bv (fun x7 : Int64 => [some (.int p0), some (.long p1), none, some (.long p3), none, some (.long x7), none]) (fun x7 => ?_) rfl
        refine s_goto (pc := 65) 153 dX3_apply_65 rfl ?_
        exact s_drop (hj4 x7 Le.rf) (And.intro rfl trivial)
      · dsimp only
        refine s_lload_n (pc := 68) 3 dX3_apply_68 rfl rfl ?_
        refine s_lconst (pc := 69) 0 dX3_apply_69 kl_0 ?_
        refine s_lcmp (pc := 70) dX3_apply_70 ?_
        refine s_join M (fun s9 : Int64 => M) 83 (fun s9 : Int64 => [none, none, none, none, none, none, none]) (fun s9 : Int64 => [.long s9]) (fun s9 hs10 => ?_) (fun j8 hj11 => ?_)
        · show S0 X _ M 83 [none, none, none, none, none, none, none] [.long s9] _
          refine s_lstore (pc := 83) dX3_apply_83 (nlt rfl) rfl (L' := [none, none, none, none, none, some (.long s9), none]) rfl ?_
          refine s_goto (pc := 85) 153 dX3_apply_85 rfl ?_
          exact s_drop (hj4 s9 Le.rf) (And.intro rfl trivial)
        · refine s_ifne (pc := 71) 80 dX3_apply_71 rfl ?_ ?_
          · refine s_lload_n (pc := 80) 1 dX3_apply_80 rfl rfl ?_
            refine s_lload_n (pc := 81) 3 dX3_apply_81 rfl rfl ?_
            refine s_grd (fun g12 => ?_)
            refine s_ldiv (pc := 82) dX3_apply_82 g12 ?_
            exact s_drop (hj11 (p1 / p3) Le.rf) trivial
          · refine s_ldc2 (pc := 74) dX3_apply_74 kl_X3_25 ?_
            refine s_goto (pc := 77) 83 dX3_apply_77 rfl ?_
            exact s_drop (hj11 (-4611686018427387904) Le.rf) trivial
      · dsimp only
        refine s_lload_n (pc := 88) 3 dX3_apply_88 rfl rfl ?_
        refine s_lconst (pc := 89) 0 dX3_apply_89 kl_0 ?_
        refine s_lcmp (pc := 90) dX3_apply_90 ?_
        refine s_join M (fun s14 : Int64 => M) 103 (fun s14 : Int64 => [none, none, none, none, none, none, none]) (fun s14 : Int64 => [.long s14]) (fun s14 hs15 => ?_) (fun j13 hj16 => ?_)
        · show S0 X _ M 103 [none, none, none, none, none, none, none] [.long s14] _
          refine s_lstore (pc := 103) dX3_apply_103 (nlt rfl) rfl (L' := [none, none, none, none, none, some (.long s14), none]) rfl ?_
          refine s_goto (pc := 105) 153 dX3_apply_105 rfl ?_
          exact s_drop (hj4 s14 Le.rf) (And.intro rfl trivial)
        · refine s_ifne (pc := 91) 100 dX3_apply_91 rfl ?_ ?_
          · refine s_lload_n (pc := 100) 1 dX3_apply_100 rfl rfl ?_
            refine s_lload_n (pc := 101) 3 dX3_apply_101 rfl rfl ?_
            refine s_grd (fun g17 => ?_)
            refine s_lrem (pc := 102) dX3_apply_102 g17 ?_
            exact s_drop (hj16 (lr p1 p3) Le.rf) trivial
          · refine s_ldc2 (pc := 94) dX3_apply_94 kl_X3_25 ?_
            refine s_goto (pc := 97) 103 dX3_apply_97 rfl ?_
            exact s_drop (hj16 (-4611686018427387904) Le.rf) trivial
      · dsimp only
        refine s_lload_n (pc := 108) 1 dX3_apply_108 rfl rfl ?_
        refine s_lload_n (pc := 109) 3 dX3_apply_109 rfl rfl ?_
        refine s_lcmp (pc := 110) dX3_apply_110 ?_
        refine s_join M (fun s19 : Int64 => M) 119 (fun s19 : Int64 => [none, none, none, none, none, none, none]) (fun s19 : Int64 => [.long s19]) (fun s19 hs20 => ?_) (fun j18 hj21 => ?_)
        · show S0 X _ M 119 [none, none, none, none, none, none, none] [.long s19] _
          refine s_lstore (pc := 119) dX3_apply_119 (nlt rfl) rfl (L' := [none, none, none, none, none, some (.long s19), none]) rfl ?_
          refine s_goto (pc := 121) 153 dX3_apply_121 rfl ?_
          exact s_drop (hj4 s19 Le.rf) (And.intro rfl trivial)
        · refine s_ifge (pc := 111) 118 dX3_apply_111 rfl ?_ ?_
          · refine s_lconst (pc := 118) 0 dX3_apply_118 kl_0 ?_
            exact s_drop (hj21 0 Le.rf) trivial
          · refine s_lconst (pc := 114) 1 dX3_apply_114 kl_1 ?_
            refine s_goto (pc := 115) 119 dX3_apply_115 rfl ?_
            exact s_drop (hj21 1 Le.rf) trivial
      · dsimp only
        refine s_lload_n (pc := 124) 1 dX3_apply_124 rfl rfl ?_
        refine s_lload_n (pc := 125) 3 dX3_apply_125 rfl rfl ?_
        refine s_lcmp (pc := 126) dX3_apply_126 ?_
        refine s_join M (fun s23 : Int64 => M) 135 (fun s23 : Int64 => [none, none, none, none, none, none, none]) (fun s23 : Int64 => [.long s23]) (fun s23 hs24 => ?_) (fun j22 hj25 => ?_)
        · show S0 X _ M 135 [none, none, none, none, none, none, none] [.long s23] _
          refine s_lstore (pc := 135) dX3_apply_135 (nlt rfl) rfl (L' := [none, none, none, none, none, some (.long s23), none]) rfl ?_
          refine s_goto (pc := 137) 153 dX3_apply_137 rfl ?_
          exact s_drop (hj4 s23 Le.rf) (And.intro rfl trivial)
        · refine s_ifle (pc := 127) 134 dX3_apply_127 rfl ?_ ?_
          · refine s_lconst (pc := 134) 0 dX3_apply_134 kl_0 ?_
            exact s_drop (hj25 0 Le.rf) trivial
          · refine s_lconst (pc := 130) 1 dX3_apply_130 kl_1 ?_
            refine s_goto (pc := 131) 135 dX3_apply_131 rfl ?_
            exact s_drop (hj25 1 Le.rf) trivial
    · refine s_lload_n (pc := 140) 1 dX3_apply_140 rfl rfl ?_
      refine s_lload_n (pc := 141) 3 dX3_apply_141 rfl rfl ?_
      refine s_lcmp (pc := 142) dX3_apply_142 ?_
      refine s_join M (fun s27 : Int64 => M) 151 (fun s27 : Int64 => [none, none, none, none, none, none, none]) (fun s27 : Int64 => [.long s27]) (fun s27 hs28 => ?_) (fun j26 hj29 => ?_)
      · show S0 X _ M 151 [none, none, none, none, none, none, none] [.long s27] _
        refine s_lstore (pc := 151) dX3_apply_151 (nlt rfl) rfl (L' := [none, none, none, none, none, some (.long s27), none]) rfl ?_
        exact s_drop (hj4 s27 Le.rf) (And.intro rfl trivial)
      · refine s_ifne (pc := 143) 150 dX3_apply_143 rfl ?_ ?_
        · refine s_lconst (pc := 150) 0 dX3_apply_150 kl_0 ?_
          exact s_drop (hj29 0 Le.rf) trivial
        · refine s_lconst (pc := 146) 1 dX3_apply_146 kl_1 ?_
          refine s_goto (pc := 147) 151 dX3_apply_147 rfl ?_
          exact s_drop (hj29 1 Le.rf) trivial
set_option maxRecDepth 100000 in
set_option maxHeartbeats 8000000 in
noncomputable def f_X3_init (M : Mem) (a0 : Nat) : Option Mem :=
  bv (nA M 14 (88 : Int32).toNatClampNeg) (fun M1 => grd (okO M1 3 a0) (bv (wR M1 a0 0 (some (mn M))) (fun M6 => bv (nA M6 15 (64 : Int32).toNatClampNeg) (fun M10 => bv (wR M10 a0 1 (some (mn M6))) (fun M15 => some M15)))))
abbrev Y_X3_init : Sta := (RX3, "<init>", cX3_init, 1, none, 1)
set_option maxRecDepth 100000 in
set_option maxHeartbeats 8000000 in
theorem t_X3_init {l : Launch} {G : Gh} {M : Mem} {a0 : Nat} {q : Mem} (h : f_X3_init M a0 = some q) : Ctr l G yX3_init Y_X3_init M [.ref (gh G + a0)] q (none) := by
  refine Ctr.of (Y := Y_X3_init) (L := [some (.ref (gh G + a0))]) (t := Option.bind (f_X3_init M a0) (fun q => some (q, (none : Option Value)))) (by decide) rfl rfl (nle rfl) (Lof_in 0 _ rfl) (fun X hG hl => ?_) (by rw [h]; rfl)
  subst hG
  subst hl
  unfold f_X3_init
  refine s_aload_n (pc := 0) 0 dX3_init_0 rfl rfl ?_
  refine s_obj (pc := 1) km_X3_3 wi_obj wc_obj (nle rfl) (nle rfl) dX3_init_1 ?_
  refine s_aload_n (pc := 4) 0 dX3_init_4 rfl rfl ?_
  refine s_bipush (pc := 5) 88 dX3_init_5 kb_88 ?_
  refine s_newa_int (pc := 7) (And.intro (by decide) (by decide)) dX3_init_7 wa_int (fun M1 hM2 => ?_)
  have h3 := le_nA hM2
  have o4 := ok_nA hM2
  refine s_grd (fun o5 => ?_)
  refine s_putrF (pc := 9) F_3 0 rfl o5 rfl rfl rfl rfl rfl dX3_init_9 kf_X3_9 (fun M6 hM7 => ?_)
  have h8 := le_wR hM7
  have o9 := h8.ok o5
  refine s_aload_n (pc := 12) 0 dX3_init_12 rfl rfl ?_
  refine s_bipush (pc := 13) 64 dX3_init_13 kb_64 ?_
  refine s_newa_long (pc := 15) (And.intro (by decide) (by decide)) dX3_init_15 wa_long (fun M10 hM11 => ?_)
  have h12 := le_nA hM11
  have o13 := h12.ok o9
  have o14 := ok_nA hM11
  refine s_putrF (pc := 17) F_3 1 rfl o13 rfl rfl rfl rfl rfl dX3_init_17 kf_X3_15 (fun M15 hM16 => ?_)
  have h17 := le_wR hM16
  have o18 := h17.ok o13
  exact s_vret rfl dX3_init_20
set_option maxRecDepth 100000 in
set_option maxHeartbeats 8000000 in
noncomputable def f_X4_addFrom (M : Mem) (a0 : Nat) (a1 : Nat) : Option Mem :=
  Option.bind (loopO (σ := Mem × Int32) (ρ := Mem) (fun s1 => if 9331 ≤ s1.2 then (some (.inr s1.1)) else (grd (okO s1.1 4 a0) (Option.bind (mR s1.1 a0 4) (fun r10 => Option.bind (mR s1.1 a0 4) (fun r11 => grd (okO s1.1 14 r11) (grd (vp_in s1.2 (mL s1.1 r11)) (bv (fun (s15 : Int32) => grd (okO s1.1 14 r10) (grd (vp_in s1.2 (mL s1.1 r10)) (bv (wI s1.1 r10 s1.2.toNatClampNeg s15) (fun M20 => bv (s1.2 + 1 : Int32) (fun x24 => some (.inl (M20, x24))))))) (fun j14 => bv (fun (s26 : Unit) => j14 (-1)) (fun j25 => if (mI s1.1 r11 s1.2.toNatClampNeg) = (-1) then (j25 ()) else (grd (okO s1.1 16 a1) (grd (vp_in s1.2 (mL s1.1 a1)) (if (mI s1.1 a1 s1.2.toNatClampNeg) = (-1) then (j25 ()) else (Option.bind (mR s1.1 a0 4) (fun r31 => grd (okO s1.1 14 r31) (grd (vp_in s1.2 (mL s1.1 r31)) (j14 ((mI s1.1 r31 s1.2.toNatClampNeg) + (mI s1.1 a1 s1.2.toNatClampNeg)))))))))))))))))) (M, 0)) (fun (x7 : Mem) => some x7)
abbrev Y_X4_addFrom : Sta := (RX4, "addFrom", cX4_addFrom, 3, none, 1)
set_option maxRecDepth 100000 in
set_option maxHeartbeats 8000000 in
theorem t_X4_addFrom {l : Launch} {G : Gh} {M : Mem} {a0 : Nat} {a1 : Nat} {q : Mem} (h : f_X4_addFrom M a0 a1 = some q) : Ctr l G yX4_addFrom Y_X4_addFrom M [.ref (gh G + a0), .ref (gh G + a1)] q (none) := by
  refine Ctr.of (Y := Y_X4_addFrom) (L := [some (.ref (gh G + a0)), some (.ref (gh G + a1)), none]) (t := Option.bind (f_X4_addFrom M a0 a1) (fun q => some (q, (none : Option Value)))) (by decide) rfl rfl (nle rfl) (Lof_in 1 _ rfl) (fun X hG hl => ?_) (by rw [h]; rfl)
  subst hG
  subst hl
  unfold f_X4_addFrom
  refine s_iconst (pc := 0) 0 dX4_addFrom_0 kc_0 ?_
  refine s_istore_n (pc := 1) 2 dX4_addFrom_1 rfl (nlt rfl) rfl (L' := [some (.ref (gh (xG X) + a0)), some (.ref (gh (xG X) + a1)), some (.int 0)]) rfl ?_
  refine s_drop (L' := [some (.ref (gh (xG X) + a0)), some (.ref (gh (xG X) + a1)), some (.int 0)]) ?_ (And.intro rfl (And.intro rfl (And.intro rfl trivial)))
  refine s_loop1 M (fun s1 : Mem × Int32 => s1.1) (fun s1 : Mem × Int32 => [some (.ref (gh (xG X) + a0)), some (.ref (gh (xG X) + a1)), some (.int s1.2)]) (fun x7 : Mem => x7) 52 (fun x7 : Mem => [none, none, none]) (fun x7 hx8 => ?_) (fun T3 R5 hT4 hR6 s1 hs2 => ?_) (M, 0) Le.rf
  · show S0 X _ x7 52 [none, none, none] [] _
    exact s_vret rfl dX4_addFrom_52
  · show S0 X _ s1.1 2 [some (.ref (gh (xG X) + a0)), some (.ref (gh (xG X) + a1)), some (.int s1.2)] [] _
    refine s_iload_n (pc := 2) 2 dX4_addFrom_2 rfl rfl ?_
    refine s_sipush (pc := 3) 9331 dX4_addFrom_3 ks_9331 ?_
    refine s_icge (pc := 6) 52 dX4_addFrom_6 rfl ?_ ?_
    · exact s_drop (hR6 s1.1 hs2) trivial
    · refine s_aload_n (pc := 9) 0 dX4_addFrom_9 rfl rfl ?_
      refine s_grd (fun o9 => ?_)
      refine s_geto (pc := 10) F_4 4 rfl o9 dX4_addFrom_10 kf_X4_66 ?_
      refine s_rvB (fun r10 => ?_)
      refine s_iload_n (pc := 13) 2 dX4_addFrom_13 rfl rfl ?_
      refine s_aload_n (pc := 14) 0 dX4_addFrom_14 rfl rfl ?_
      refine s_geto (pc := 15) F_4 4 rfl o9 dX4_addFrom_15 kf_X4_66 ?_
      refine s_rvB (fun r11 => ?_)
      refine s_iload_n (pc := 18) 2 dX4_addFrom_18 rfl rfl ?_
      refine s_grd (fun o12 => ?_)
      refine s_grd (fun i13 => ?_)
      refine s_iald (pc := 19) o12 i13 dX4_addFrom_19 ?_
      refine s_iconst (pc := 20) (-1) dX4_addFrom_20 kc_m1 ?_
      refine s_join s1.1 (fun s15 : Int32 => s1.1) 45 (fun s15 : Int32 => [some (.ref (gh (xG X) + a0)), some (.ref (gh (xG X) + a1)), some (.int s1.2)]) (fun s15 : Int32 => [.int s15, .int s1.2, .ref (gh (xG X) + r10)]) (fun s15 hs16 => ?_) (fun j14 hj17 => ?_)
      · show S0 X _ s1.1 45 [some (.ref (gh (xG X) + a0)), some (.ref (gh (xG X) + a1)), some (.int s1.2)] [.int s15, .int s1.2, .ref (gh (xG X) + r10)] _
        refine s_grd (fun o18 => ?_)
        refine s_grd (fun i19 => ?_)
        refine s_iast (pc := 45) o18 i19 dX4_addFrom_45 (fun M20 hM21 => ?_)
        have h22 := le_wI hM21
        have o23 := h22.ok o9
        refine s_iinc (pc := 46) dX4_addFrom_46 rfl (v := s1.2 + 1) (congrArg (fun z : Int32 => s1.2 + z) kc_1) (nlt rfl) rfl (L' := [some (.ref (gh (xG X) + a0)), some (.ref (gh (xG X) + a1)), some (.int (s1.2 + 1))]) rfl ?_
        refine s_bv (fun x24 : Int32 => [some (.ref (gh (xG X) + a0)), some (.ref (gh (xG X) + a1)), some (.int x24)]) (fun x24 => ?_) rfl
        refine s_goto (pc := 49) 2 dX4_addFrom_49 rfl ?_
        exact s_drop (hT4 (M20, x24) (hs2.tr h22)) (And.intro rfl (And.intro rfl (And.intro rfl trivial)))
      · refine s_join s1.1 (fun s26 : Unit => s1.1) 31 (fun s26 : Unit => [some (.ref (gh (xG X) + a0)), some (.ref (gh (xG X) + a1)), some (.int s1.2)]) (fun s26 : Unit => [.int s1.2, .ref (gh (xG X) + r10)]) (fun s26 hs27 => ?_) (fun j25 hj28 => ?_)
        · show S0 X _ s1.1 31 [some (.ref (gh (xG X) + a0)), some (.ref (gh (xG X) + a1)), some (.int s1.2)] [.int s1.2, .ref (gh (xG X) + r10)] _
          refine s_iconst (pc := 31) (-1) dX4_addFrom_31 kc_m1 ?_
          refine s_goto (pc := 32) 45 dX4_addFrom_32 rfl ?_
          exact s_drop (hj17 (-1) Le.rf) (And.intro rfl (And.intro rfl (And.intro rfl trivial)))
        · refine s_iceq (pc := 21) 31 dX4_addFrom_21 rfl ?_ ?_
          · exact s_drop (hj28 () Le.rf) (And.intro rfl (And.intro rfl (And.intro rfl trivial)))
          · refine s_aload_n (pc := 24) 1 dX4_addFrom_24 rfl rfl ?_
            refine s_iload_n (pc := 25) 2 dX4_addFrom_25 rfl rfl ?_
            refine s_grd (fun o29 => ?_)
            refine s_grd (fun i30 => ?_)
            refine s_sald (pc := 26) o29 i30 dX4_addFrom_26 ?_
            refine s_iconst (pc := 27) (-1) dX4_addFrom_27 kc_m1 ?_
            refine s_icne (pc := 28) 35 dX4_addFrom_28 rfl ?_ ?_
            · refine s_aload_n (pc := 35) 0 dX4_addFrom_35 rfl rfl ?_
              refine s_geto (pc := 36) F_4 4 rfl o9 dX4_addFrom_36 kf_X4_66 ?_
              refine s_rvB (fun r31 => ?_)
              refine s_iload_n (pc := 39) 2 dX4_addFrom_39 rfl rfl ?_
              refine s_grd (fun o32 => ?_)
              refine s_grd (fun i33 => ?_)
              refine s_iald (pc := 40) o32 i33 dX4_addFrom_40 ?_
              refine s_aload_n (pc := 41) 1 dX4_addFrom_41 rfl rfl ?_
              refine s_iload_n (pc := 42) 2 dX4_addFrom_42 rfl rfl ?_
              refine s_sald (pc := 43) o29 i30 dX4_addFrom_43 ?_
              refine s_iadd (pc := 44) dX4_addFrom_44 ?_
              exact s_drop (hj17 ((mI s1.1 r31 s1.2.toNatClampNeg) + (mI s1.1 a1 s1.2.toNatClampNeg)) Le.rf) (And.intro rfl (And.intro rfl (And.intro rfl trivial)))
            · exact s_drop (hj28 () Le.rf) (And.intro rfl (And.intro rfl (And.intro rfl trivial)))
set_option maxRecDepth 100000 in
set_option maxHeartbeats 8000000 in
noncomputable def f_X4_findLeast (M : Mem) (a0 : Nat) : Option Mem :=
  grd (okO M 4 a0) (bv (wI M a0 7 (-1)) (fun M2 => bv (wI M2 a0 8 0) (fun M6 => bv (wI M6 a0 9 (-1)) (fun M10 => Option.bind (loopO (σ := Mem × Int32) (ρ := Mem) (fun s14 => if 9331 ≤ s14.2 then (some (.inr s14.1)) else (Option.bind (mR s14.1 a0 4) (fun r23 => grd (okO s14.1 14 r23) (grd (vp_in s14.2 (mL s14.1 r23)) (bv (mI s14.1 r23 s14.2.toNatClampNeg : Int32) (fun x26 => bv (fun (s28 : Mem) => bv (s14.2 + 1 : Int32) (fun x32 => some (.inl (s28, x32)))) (fun j27 => if x26 = (-1) then (j27 s14.1) else (bv (fun (s34 : Unit) => bv (fun (s38 : Mem) => bv (wI s38 a0 8 ((mI s38 a0 8) + 1)) (fun M42 => j27 M42)) (fun j37 => if x26 = (mI s14.1 a0 7) then (j37 s14.1) else (bv (wI s14.1 a0 7 x26) (fun M46 => bv (wI M46 a0 8 0) (fun M50 => bv (wI M50 a0 9 s14.2) (fun M54 => j37 M54)))))) (fun j33 => if (mI s14.1 a0 7) = (-1) then (j33 ()) else (if x26 ≤ (mI s14.1 a0 7) then (j33 ()) else (j27 s14.1))))))))))) (M10, 0)) (fun (x21 : Mem) => some x21)))))
abbrev Y_X4_findLeast : Sta := (RX4, "findLeast", cX4_findLeast, 3, none, 1)
set_option maxRecDepth 100000 in
set_option maxHeartbeats 8000000 in
theorem t_X4_findLeast {l : Launch} {G : Gh} {M : Mem} {a0 : Nat} {q : Mem} (h : f_X4_findLeast M a0 = some q) : Ctr l G yX4_findLeast Y_X4_findLeast M [.ref (gh G + a0)] q (none) := by
  refine Ctr.of (Y := Y_X4_findLeast) (L := [some (.ref (gh G + a0)), none, none]) (t := Option.bind (f_X4_findLeast M a0) (fun q => some (q, (none : Option Value)))) (by decide) rfl rfl (nle rfl) (Lof_in 2 _ rfl) (fun X hG hl => ?_) (by rw [h]; rfl)
  subst hG
  subst hl
  unfold f_X4_findLeast
  refine s_aload_n (pc := 0) 0 dX4_findLeast_0 rfl rfl ?_
  refine s_iconst (pc := 1) (-1) dX4_findLeast_1 kc_m1 ?_
  refine s_grd (fun o1 => ?_)
  refine s_puti (pc := 2) F_4 7 rfl o1 rfl rfl rfl dX4_findLeast_2 kf_X4_92 (fun M2 hM3 => ?_)
  have h4 := le_wI hM3
  have o5 := h4.ok o1
  refine s_aload_n (pc := 5) 0 dX4_findLeast_5 rfl rfl ?_
  refine s_iconst (pc := 6) 0 dX4_findLeast_6 kc_0 ?_
  refine s_puti (pc := 7) F_4 8 rfl o5 rfl rfl rfl dX4_findLeast_7 kf_X4_95 (fun M6 hM7 => ?_)
  have h8 := le_wI hM7
  have o9 := h8.ok o5
  refine s_aload_n (pc := 10) 0 dX4_findLeast_10 rfl rfl ?_
  refine s_iconst (pc := 11) (-1) dX4_findLeast_11 kc_m1 ?_
  refine s_puti (pc := 12) F_4 9 rfl o9 rfl rfl rfl dX4_findLeast_12 kf_X4_98 (fun M10 hM11 => ?_)
  have h12 := le_wI hM11
  have o13 := h12.ok o9
  refine s_iconst (pc := 15) 0 dX4_findLeast_15 kc_0 ?_
  refine s_istore_n (pc := 16) 1 dX4_findLeast_16 rfl (nlt rfl) rfl (L' := [some (.ref (gh (xG X) + a0)), some (.int 0), none]) rfl ?_
  refine s_drop (L' := [some (.ref (gh (xG X) + a0)), some (.int 0), none]) ?_ (And.intro rfl (And.intro rfl trivial))
  refine s_loop1 M10 (fun s14 : Mem × Int32 => s14.1) (fun s14 : Mem × Int32 => [some (.ref (gh (xG X) + a0)), some (.int s14.2), none]) (fun x21 : Mem => x21) 94 (fun x21 : Mem => [none, none, none]) (fun x21 hx22 => ?_) (fun T16 R18 hT17 hR19 s14 hs15 => ?_) (M10, 0) Le.rf
  · show S0 X _ x21 94 [none, none, none] [] _
    exact s_vret rfl dX4_findLeast_94
  · show S0 X _ s14.1 17 [some (.ref (gh (xG X) + a0)), some (.int s14.2), none] [] _
    have o20 := hs15.ok o13
    refine s_iload_n (pc := 17) 1 dX4_findLeast_17 rfl rfl ?_
    refine s_sipush (pc := 18) 9331 dX4_findLeast_18 ks_9331 ?_
    refine s_icge (pc := 21) 94 dX4_findLeast_21 rfl ?_ ?_
    · exact s_drop (hR19 s14.1 hs15) trivial
    · refine s_aload_n (pc := 24) 0 dX4_findLeast_24 rfl rfl ?_
      refine s_geto (pc := 25) F_4 4 rfl o20 dX4_findLeast_25 kf_X4_66 ?_
      refine s_rvB (fun r23 => ?_)
      refine s_iload_n (pc := 28) 1 dX4_findLeast_28 rfl rfl ?_
      refine s_grd (fun o24 => ?_)
      refine s_grd (fun i25 => ?_)
      refine s_iald (pc := 29) o24 i25 dX4_findLeast_29 ?_
      refine s_istore_n (pc := 30) 2 dX4_findLeast_30 rfl (nlt rfl) rfl (L' := [some (.ref (gh (xG X) + a0)), some (.int s14.2), some (.int (mI s14.1 r23 s14.2.toNatClampNeg))]) rfl ?_
      refine s_bv (fun x26 : Int32 => [some (.ref (gh (xG X) + a0)), some (.int s14.2), some (.int x26)]) (fun x26 => ?_) rfl
      refine s_iload_n (pc := 31) 2 dX4_findLeast_31 rfl rfl ?_
      refine s_iconst (pc := 32) (-1) dX4_findLeast_32 kc_m1 ?_
      refine s_join s14.1 (fun s28 : Mem => s28) 88 (fun s28 : Mem => [some (.ref (gh (xG X) + a0)), some (.int s14.2), none]) (fun s28 : Mem => []) (fun s28 hs29 => ?_) (fun j27 hj30 => ?_)
      · show S0 X _ s28 88 [some (.ref (gh (xG X) + a0)), some (.int s14.2), none] [] _
        have o31 := hs29.ok o20
        refine s_iinc (pc := 88) dX4_findLeast_88 rfl (v := s14.2 + 1) (congrArg (fun z : Int32 => s14.2 + z) kc_1) (nlt rfl) rfl (L' := [some (.ref (gh (xG X) + a0)), some (.int (s14.2 + 1)), none]) rfl ?_
        refine s_bv (fun x32 : Int32 => [some (.ref (gh (xG X) + a0)), some (.int x32), none]) (fun x32 => ?_) rfl
        refine s_goto (pc := 91) 17 dX4_findLeast_91 rfl ?_
        exact s_drop (hT17 (s28, x32) (hs15.tr hs29)) (And.intro rfl (And.intro rfl trivial))
      · refine s_iceq (pc := 33) 88 dX4_findLeast_33 rfl ?_ ?_
        · exact s_drop (hj30 s14.1 Le.rf) (And.intro rfl (And.intro rfl trivial))
        · refine s_aload_n (pc := 36) 0 dX4_findLeast_36 rfl rfl ?_
          refine s_geti (pc := 37) F_4 7 rfl o20 dX4_findLeast_37 kf_X4_92 ?_
          refine s_iconst (pc := 40) (-1) dX4_findLeast_40 kc_m1 ?_
          refine s_join s14.1 (fun s34 : Unit => s14.1) 55 (fun s34 : Unit => [some (.ref (gh (xG X) + a0)), some (.int s14.2), some (.int x26)]) (fun s34 : Unit => []) (fun s34 hs35 => ?_) (fun j33 hj36 => ?_)
          · show S0 X _ s14.1 55 [some (.ref (gh (xG X) + a0)), some (.int s14.2), some (.int x26)] [] _
            refine s_iload_n (pc := 55) 2 dX4_findLeast_55 rfl rfl ?_
            refine s_aload_n (pc := 56) 0 dX4_findLeast_56 rfl rfl ?_
            refine s_geti (pc := 57) F_4 7 rfl o20 dX4_findLeast_57 kf_X4_92 ?_
            refine s_join s14.1 (fun s38 : Mem => s38) 78 (fun s38 : Mem => [some (.ref (gh (xG X) + a0)), some (.int s14.2), none]) (fun s38 : Mem => []) (fun s38 hs39 => ?_) (fun j37 hj40 => ?_)
            · show S0 X _ s38 78 [some (.ref (gh (xG X) + a0)), some (.int s14.2), none] [] _
              have o41 := hs39.ok o20
              refine s_aload_n (pc := 78) 0 dX4_findLeast_78 rfl rfl ?_
              refine s_dup (pc := 79) dX4_findLeast_79 rfl ?_
              refine s_geti (pc := 80) F_4 8 rfl o41 dX4_findLeast_80 kf_X4_95 ?_
              refine s_iconst (pc := 83) 1 dX4_findLeast_83 kc_1 ?_
              refine s_iadd (pc := 84) dX4_findLeast_84 ?_
              refine s_puti (pc := 85) F_4 8 rfl o41 rfl rfl rfl dX4_findLeast_85 kf_X4_95 (fun M42 hM43 => ?_)
              have h44 := le_wI hM43
              have o45 := h44.ok o41
              exact s_drop (hj30 M42 (hs39.tr h44)) (And.intro rfl (And.intro rfl trivial))
            · refine s_iceq (pc := 60) 78 dX4_findLeast_60 rfl ?_ ?_
              · exact s_drop (hj40 s14.1 Le.rf) (And.intro rfl (And.intro rfl trivial))
              · refine s_aload_n (pc := 63) 0 dX4_findLeast_63 rfl rfl ?_
                refine s_iload_n (pc := 64) 2 dX4_findLeast_64 rfl rfl ?_
                refine s_puti (pc := 65) F_4 7 rfl o20 rfl rfl rfl dX4_findLeast_65 kf_X4_92 (fun M46 hM47 => ?_)
                have h48 := le_wI hM47
                have o49 := h48.ok o20
                refine s_aload_n (pc := 68) 0 dX4_findLeast_68 rfl rfl ?_
                refine s_iconst (pc := 69) 0 dX4_findLeast_69 kc_0 ?_
                refine s_puti (pc := 70) F_4 8 rfl o49 rfl rfl rfl dX4_findLeast_70 kf_X4_95 (fun M50 hM51 => ?_)
                have h52 := le_wI hM51
                have o53 := h52.ok o49
                refine s_aload_n (pc := 73) 0 dX4_findLeast_73 rfl rfl ?_
                refine s_iload_n (pc := 74) 1 dX4_findLeast_74 rfl rfl ?_
                refine s_puti (pc := 75) F_4 9 rfl o53 rfl rfl rfl dX4_findLeast_75 kf_X4_98 (fun M54 hM55 => ?_)
                have h56 := le_wI hM55
                have o57 := h56.ok o53
                exact s_drop (hj40 M54 (h48.tr (h52.tr h56))) (And.intro rfl (And.intro rfl trivial))
          · refine s_iceq (pc := 41) 55 dX4_findLeast_41 rfl ?_ ?_
            · exact s_drop (hj36 () Le.rf) (And.intro rfl (And.intro rfl (And.intro rfl trivial)))
            · refine s_iload_n (pc := 44) 2 dX4_findLeast_44 rfl rfl ?_
              refine s_aload_n (pc := 45) 0 dX4_findLeast_45 rfl rfl ?_
              refine s_geti (pc := 46) F_4 7 rfl o20 dX4_findLeast_46 kf_X4_92 ?_
              refine s_icle (pc := 49) 55 dX4_findLeast_49 rfl ?_ ?_
              · exact s_drop (hj36 () Le.rf) (And.intro rfl (And.intro rfl (And.intro rfl trivial)))
              · refine s_goto (pc := 52) 88 dX4_findLeast_52 rfl ?_
                exact s_drop (hj30 s14.1 Le.rf) (And.intro rfl (And.intro rfl trivial))
set_option maxRecDepth 100000 in
set_option maxHeartbeats 8000000 in
noncomputable def f_X4_init (M : Mem) (a0 : Nat) (a1 : Nat) (a2 : Nat) : Option Mem :=
  bv (nA M 18 (3 : Int32).toNatClampNeg) (fun M1 => grd (okO M1 4 a0) (bv (wR M1 a0 2 (some (mn M))) (fun M6 => bv (wR M6 a0 0 (some a1)) (fun M10 => bv (wR M10 a0 1 (some a2)) (fun M14 => some M14)))))
abbrev Y_X4_init : Sta := (RX4, "<init>", cX4_init, 3, none, 1)
set_option maxRecDepth 100000 in
set_option maxHeartbeats 8000000 in
theorem t_X4_init {l : Launch} {G : Gh} {M : Mem} {a0 : Nat} {a1 : Nat} {a2 : Nat} {q : Mem} (h : f_X4_init M a0 a1 a2 = some q) : Ctr l G yX4_init Y_X4_init M [.ref (gh G + a0), .ref (gh G + a1), .ref (gh G + a2)] q (none) := by
  refine Ctr.of (Y := Y_X4_init) (L := [some (.ref (gh G + a0)), some (.ref (gh G + a1)), some (.ref (gh G + a2))]) (t := Option.bind (f_X4_init M a0 a1 a2) (fun q => some (q, (none : Option Value)))) (by decide) rfl rfl (nle rfl) (Lof_in 0 _ rfl) (fun X hG hl => ?_) (by rw [h]; rfl)
  subst hG
  subst hl
  unfold f_X4_init
  refine s_aload_n (pc := 0) 0 dX4_init_0 rfl rfl ?_
  refine s_obj (pc := 1) km_X4_3 wi_obj wc_obj (nle rfl) (nle rfl) dX4_init_1 ?_
  refine s_aload_n (pc := 4) 0 dX4_init_4 rfl rfl ?_
  refine s_iconst (pc := 5) 3 dX4_init_5 kc_3 ?_
  refine s_anewD (pc := 6) (And.intro (by decide) (by decide)) dX4_init_6 kk_X4_11 (fun M1 hM2 => ?_)
  have h3 := le_nA hM2
  have o4 := ok_nA hM2
  refine s_grd (fun o5 => ?_)
  refine s_putrF (pc := 9) F_4 2 rfl o5 rfl rfl rfl rfl rfl dX4_init_9 kf_X4_13 (fun M6 hM7 => ?_)
  have h8 := le_wR hM7
  have o9 := h8.ok o5
  refine s_aload_n (pc := 12) 0 dX4_init_12 rfl rfl ?_
  refine s_aload_n (pc := 13) 1 dX4_init_13 rfl rfl ?_
  refine s_putrF (pc := 14) F_4 0 rfl o9 rfl rfl rfl rfl rfl dX4_init_14 kf_X4_17 (fun M10 hM11 => ?_)
  have h12 := le_wR hM11
  have o13 := h12.ok o9
  refine s_aload_n (pc := 17) 0 dX4_init_17 rfl rfl ?_
  refine s_aload_n (pc := 18) 2 dX4_init_18 rfl rfl ?_
  refine s_putrF (pc := 19) F_4 1 rfl o13 rfl rfl rfl rfl rfl dX4_init_19 kf_X4_21 (fun M14 hM15 => ?_)
  have h16 := le_wR hM15
  have o17 := h16.ok o13
  exact s_vret rfl dX4_init_22
set_option maxRecDepth 100000 in
set_option maxHeartbeats 8000000 in
noncomputable def f_X5_comesOf (M : Mem) (a0 : Nat) (p1 : Int32) (p2 : Int32) : Option Int32 :=
  Option.bind (loopO (σ := Int32 × Int32) (ρ := Int32) (fun s1 => if 6 ≤ s1.2 then (some (.inr s1.1)) else (if s1.1 = (-1) then (some (.inr s1.1)) else (if p2 ≤ s1.1 then (some (.inr s1.1)) else (grd (okO M 5 a0) (Option.bind (mR M a0 2) (fun r10 => grd (okO M 14 r10) (grd (vp_in s1.1 (mL M r10)) (bv (mI M r10 s1.1.toNatClampNeg : Int32) (fun x13 => bv (s1.2 + 1 : Int32) (fun x14 => some (.inl (x13, x14)))))))))))) (p1, 0)) (fun (x7 : Int32) => if x7 = p2 then (some 1) else (some 0))
abbrev Y_X5_comesOf : Sta := (RX5, "comesOf", cX5_comesOf, 5, (some .boolean), 1)
set_option maxRecDepth 100000 in
set_option maxHeartbeats 8000000 in
theorem t_X5_comesOf {l : Launch} {G : Gh} {M : Mem} {a0 : Nat} {p1 : Int32} {p2 : Int32} {q : Int32} (h : f_X5_comesOf M a0 p1 p2 = some q) : Ctr l G yX5_comesOf Y_X5_comesOf M [.ref (gh G + a0), .int p1, .int p2] M (some (.int q)) := by
  refine Ctr.of (Y := Y_X5_comesOf) (L := [some (.ref (gh G + a0)), some (.int p1), some (.int p2), none, none]) (t := Option.bind (f_X5_comesOf M a0 p1 p2) (fun q => some (M, some (.int q)))) (by decide) rfl rfl (nle rfl) (Lof_in 2 _ rfl) (fun X hG hl => ?_) (by rw [h]; rfl)
  subst hG
  subst hl
  unfold f_X5_comesOf
  refine s_iload_n (pc := 0) 1 dX5_comesOf_0 rfl rfl ?_
  refine s_istore_n (pc := 1) 3 dX5_comesOf_1 rfl (nlt rfl) rfl (L' := [some (.ref (gh (xG X) + a0)), some (.int p1), some (.int p2), some (.int p1), none]) rfl ?_
  refine s_iconst (pc := 2) 0 dX5_comesOf_2 kc_0 ?_
  refine s_istore (pc := 3) dX5_comesOf_3 (nlt rfl) rfl (L' := [some (.ref (gh (xG X) + a0)), some (.int p1), some (.int p2), some (.int p1), some (.int 0)]) rfl ?_
  refine s_drop (L' := [some (.ref (gh (xG X) + a0)), none, some (.int p2), some (.int p1), some (.int 0)]) ?_ (And.intro rfl (And.intro rfl (And.intro rfl (And.intro rfl trivial))))
  refine s_loop1 M (fun s1 : Int32 × Int32 => M) (fun s1 : Int32 × Int32 => [some (.ref (gh (xG X) + a0)), none, some (.int p2), some (.int s1.1), some (.int s1.2)]) (fun x7 : Int32 => M) 35 (fun x7 : Int32 => [none, none, some (.int p2), some (.int x7), none]) (fun x7 hx8 => ?_) (fun T3 R5 hT4 hR6 s1 hs2 => ?_) (p1, 0) Le.rf
  · show S0 X _ M 35 [none, none, some (.int p2), some (.int x7), none] [] _
    refine s_iload_n (pc := 35) 3 dX5_comesOf_35 rfl rfl ?_
    refine s_iload_n (pc := 36) 2 dX5_comesOf_36 rfl rfl ?_
    refine s_icne (pc := 37) 44 dX5_comesOf_37 rfl ?_ ?_
    · refine s_iconst (pc := 44) 0 dX5_comesOf_44 kc_0 ?_
      exact s_zret rfl rfl dX5_comesOf_45
    · refine s_iconst (pc := 40) 1 dX5_comesOf_40 kc_1 ?_
      refine s_goto (pc := 41) 45 dX5_comesOf_41 rfl ?_
      exact s_zret rfl rfl dX5_comesOf_45
  · show S0 X _ M 5 [some (.ref (gh (xG X) + a0)), none, some (.int p2), some (.int s1.1), some (.int s1.2)] [] _
    refine s_iload (pc := 5) dX5_comesOf_5 rfl ?_
    refine s_bipush (pc := 7) 6 dX5_comesOf_7 kb_6 ?_
    refine s_icge (pc := 9) 35 dX5_comesOf_9 rfl ?_ ?_
    · exact s_drop (hR6 s1.1 Le.rf) (And.intro rfl (And.intro rfl trivial))
    · refine s_iload_n (pc := 12) 3 dX5_comesOf_12 rfl rfl ?_
      refine s_iconst (pc := 13) (-1) dX5_comesOf_13 kc_m1 ?_
      refine s_iceq (pc := 14) 35 dX5_comesOf_14 rfl ?_ ?_
      · exact s_drop (hR6 s1.1 Le.rf) (And.intro rfl (And.intro rfl trivial))
      · refine s_iload_n (pc := 17) 3 dX5_comesOf_17 rfl rfl ?_
        refine s_iload_n (pc := 18) 2 dX5_comesOf_18 rfl rfl ?_
        refine s_icge (pc := 19) 35 dX5_comesOf_19 rfl ?_ ?_
        · exact s_drop (hR6 s1.1 Le.rf) (And.intro rfl (And.intro rfl trivial))
        · refine s_aload_n (pc := 22) 0 dX5_comesOf_22 rfl rfl ?_
          refine s_grd (fun o9 => ?_)
          refine s_geto (pc := 23) F_5 2 rfl o9 dX5_comesOf_23 kf_X5_18 ?_
          refine s_rvB (fun r10 => ?_)
          refine s_iload_n (pc := 26) 3 dX5_comesOf_26 rfl rfl ?_
          refine s_grd (fun o11 => ?_)
          refine s_grd (fun i12 => ?_)
          refine s_iald (pc := 27) o11 i12 dX5_comesOf_27 ?_
          refine s_istore_n (pc := 28) 3 dX5_comesOf_28 rfl (nlt rfl) rfl (L' := [some (.ref (gh (xG X) + a0)), none, some (.int p2), some (.int (mI M r10 s1.1.toNatClampNeg)), some (.int s1.2)]) rfl ?_
          refine s_bv (fun x13 : Int32 => [some (.ref (gh (xG X) + a0)), none, some (.int p2), some (.int x13), some (.int s1.2)]) (fun x13 => ?_) rfl
          refine s_iinc (pc := 29) dX5_comesOf_29 rfl (v := s1.2 + 1) (congrArg (fun z : Int32 => s1.2 + z) kc_1) (nlt rfl) rfl (L' := [some (.ref (gh (xG X) + a0)), none, some (.int p2), some (.int x13), some (.int (s1.2 + 1))]) rfl ?_
          refine s_bv (fun x14 : Int32 => [some (.ref (gh (xG X) + a0)), none, some (.int p2), some (.int x13), some (.int x14)]) (fun x14 => ?_) rfl
          refine s_goto (pc := 32) 5 dX5_comesOf_32 rfl ?_
          exact s_drop (hT4 (x13, x14) Le.rf) (And.intro rfl (And.intro rfl (And.intro rfl (And.intro rfl trivial))))
set_option maxRecDepth 100000 in
set_option maxHeartbeats 8000000 in
noncomputable def f_X5_houseAt (M : Mem) (a0 : Nat) (p1 : Int32) : Option Int32 :=
  if p1 < 0 then (some 0) else (grd (okO M 5 a0) (if (mI M a0 7) ≤ p1 then (some 0) else (Option.bind (mR M a0 0) (fun r2 => grd (okO M 14 r2) (grd (vp_in p1 (mL M r2)) (some (mI M r2 p1.toNatClampNeg)))))))
abbrev Y_X5_houseAt : Sta := (RX5, "houseAt", cX5_houseAt, 2, (some .int), 1)
set_option maxRecDepth 100000 in
set_option maxHeartbeats 8000000 in
theorem t_X5_houseAt {l : Launch} {G : Gh} {M : Mem} {a0 : Nat} {p1 : Int32} {q : Int32} (h : f_X5_houseAt M a0 p1 = some q) : Ctr l G yX5_houseAt Y_X5_houseAt M [.ref (gh G + a0), .int p1] M (some (.int q)) := by
  refine Ctr.of (Y := Y_X5_houseAt) (L := [some (.ref (gh G + a0)), some (.int p1)]) (t := Option.bind (f_X5_houseAt M a0 p1) (fun q => some (M, some (.int q)))) (by decide) rfl rfl (nle rfl) (Lof_in 0 _ rfl) (fun X hG hl => ?_) (by rw [h]; rfl)
  subst hG
  subst hl
  unfold f_X5_houseAt
  refine s_iload_n (pc := 0) 1 dX5_houseAt_0 rfl rfl ?_
  refine s_iflt (pc := 1) 21 dX5_houseAt_1 rfl ?_ ?_
  · refine s_iconst (pc := 21) 0 dX5_houseAt_21 kc_0 ?_
    exact s_iret rfl dX5_houseAt_22
  · refine s_iload_n (pc := 4) 1 dX5_houseAt_4 rfl rfl ?_
    refine s_aload_n (pc := 5) 0 dX5_houseAt_5 rfl rfl ?_
    refine s_grd (fun o1 => ?_)
    refine s_geti (pc := 6) F_5 7 rfl o1 dX5_houseAt_6 kf_X5_40 ?_
    refine s_icge (pc := 9) 21 dX5_houseAt_9 rfl ?_ ?_
    · refine s_iconst (pc := 21) 0 dX5_houseAt_21 kc_0 ?_
      exact s_iret rfl dX5_houseAt_22
    · refine s_aload_n (pc := 12) 0 dX5_houseAt_12 rfl rfl ?_
      refine s_geto (pc := 13) F_5 0 rfl o1 dX5_houseAt_13 kf_X5_9 ?_
      refine s_rvB (fun r2 => ?_)
      refine s_iload_n (pc := 16) 1 dX5_houseAt_16 rfl rfl ?_
      refine s_grd (fun o3 => ?_)
      refine s_grd (fun i4 => ?_)
      refine s_iald (pc := 17) o3 i4 dX5_houseAt_17 ?_
      refine s_goto (pc := 18) 22 dX5_houseAt_18 rfl ?_
      exact s_iret rfl dX5_houseAt_22
set_option maxRecDepth 100000 in
set_option maxHeartbeats 8000000 in
noncomputable def f_X5_init (M : Mem) (a0 : Nat) : Option Mem :=
  bv (nA M 14 (6 : Int32).toNatClampNeg) (fun M1 => grd (okO M1 5 a0) (bv (wR M1 a0 0 (some (mn M))) (fun M6 => bv (nA M6 14 (36 : Int32).toNatClampNeg) (fun M10 => bv (wR M10 a0 1 (some (mn M6))) (fun M15 => bv (nA M15 14 (6 : Int32).toNatClampNeg) (fun M19 => bv (wR M19 a0 2 (some (mn M15))) (fun M24 => bv (nA M24 14 (6 : Int32).toNatClampNeg) (fun M28 => bv (wR M28 a0 3 (some (mn M24))) (fun M33 => bv (nA M33 14 (64 : Int32).toNatClampNeg) (fun M37 => bv (wR M37 a0 4 (some (mn M33))) (fun M42 => bv (nA M42 14 (7 : Int32).toNatClampNeg) (fun M46 => bv (wR M46 a0 5 (some (mn M42))) (fun M51 => bv (nA M51 14 (7 : Int32).toNatClampNeg) (fun M55 => bv (wR M55 a0 6 (some (mn M51))) (fun M60 => some M60)))))))))))))))
abbrev Y_X5_init : Sta := (RX5, "<init>", cX5_init, 1, none, 1)
set_option maxRecDepth 100000 in
set_option maxHeartbeats 8000000 in
theorem t_X5_init {l : Launch} {G : Gh} {M : Mem} {a0 : Nat} {q : Mem} (h : f_X5_init M a0 = some q) : Ctr l G yX5_init Y_X5_init M [.ref (gh G + a0)] q (none) := by
  refine Ctr.of (Y := Y_X5_init) (L := [some (.ref (gh G + a0))]) (t := Option.bind (f_X5_init M a0) (fun q => some (q, (none : Option Value)))) (by decide) rfl rfl (nle rfl) (Lof_in 0 _ rfl) (fun X hG hl => ?_) (by rw [h]; rfl)
  subst hG
  subst hl
  unfold f_X5_init
  refine s_aload_n (pc := 0) 0 dX5_init_0 rfl rfl ?_
  refine s_obj (pc := 1) km_X5_3 wi_obj wc_obj (nle rfl) (nle rfl) dX5_init_1 ?_
  refine s_aload_n (pc := 4) 0 dX5_init_4 rfl rfl ?_
  refine s_bipush (pc := 5) 6 dX5_init_5 kb_6 ?_
  refine s_newa_int (pc := 7) (And.intro (by decide) (by decide)) dX5_init_7 wa_int (fun M1 hM2 => ?_)
  have h3 := le_nA hM2
  have o4 := ok_nA hM2
  refine s_grd (fun o5 => ?_)
  refine s_putrF (pc := 9) F_5 0 rfl o5 rfl rfl rfl rfl rfl dX5_init_9 kf_X5_9 (fun M6 hM7 => ?_)
  have h8 := le_wR hM7
  have o9 := h8.ok o5
  refine s_aload_n (pc := 12) 0 dX5_init_12 rfl rfl ?_
  refine s_bipush (pc := 13) 36 dX5_init_13 kb_36 ?_
  refine s_newa_int (pc := 15) (And.intro (by decide) (by decide)) dX5_init_15 wa_int (fun M10 hM11 => ?_)
  have h12 := le_nA hM11
  have o13 := h12.ok o9
  have o14 := ok_nA hM11
  refine s_putrF (pc := 17) F_5 1 rfl o13 rfl rfl rfl rfl rfl dX5_init_17 kf_X5_15 (fun M15 hM16 => ?_)
  have h17 := le_wR hM16
  have o18 := h17.ok o13
  refine s_aload_n (pc := 20) 0 dX5_init_20 rfl rfl ?_
  refine s_bipush (pc := 21) 6 dX5_init_21 kb_6 ?_
  refine s_newa_int (pc := 23) (And.intro (by decide) (by decide)) dX5_init_23 wa_int (fun M19 hM20 => ?_)
  have h21 := le_nA hM20
  have o22 := h21.ok o18
  have o23 := ok_nA hM20
  refine s_putrF (pc := 25) F_5 2 rfl o22 rfl rfl rfl rfl rfl dX5_init_25 kf_X5_18 (fun M24 hM25 => ?_)
  have h26 := le_wR hM25
  have o27 := h26.ok o22
  refine s_aload_n (pc := 28) 0 dX5_init_28 rfl rfl ?_
  refine s_bipush (pc := 29) 6 dX5_init_29 kb_6 ?_
  refine s_newa_int (pc := 31) (And.intro (by decide) (by decide)) dX5_init_31 wa_int (fun M28 hM29 => ?_)
  have h30 := le_nA hM29
  have o31 := h30.ok o27
  have o32 := ok_nA hM29
  refine s_putrF (pc := 33) F_5 3 rfl o31 rfl rfl rfl rfl rfl dX5_init_33 kf_X5_21 (fun M33 hM34 => ?_)
  have h35 := le_wR hM34
  have o36 := h35.ok o31
  refine s_aload_n (pc := 36) 0 dX5_init_36 rfl rfl ?_
  refine s_bipush (pc := 37) 64 dX5_init_37 kb_64 ?_
  refine s_newa_int (pc := 39) (And.intro (by decide) (by decide)) dX5_init_39 wa_int (fun M37 hM38 => ?_)
  have h39 := le_nA hM38
  have o40 := h39.ok o36
  have o41 := ok_nA hM38
  refine s_putrF (pc := 41) F_5 4 rfl o40 rfl rfl rfl rfl rfl dX5_init_41 kf_X5_24 (fun M42 hM43 => ?_)
  have h44 := le_wR hM43
  have o45 := h44.ok o40
  refine s_aload_n (pc := 44) 0 dX5_init_44 rfl rfl ?_
  refine s_bipush (pc := 45) 7 dX5_init_45 kb_7 ?_
  refine s_newa_int (pc := 47) (And.intro (by decide) (by decide)) dX5_init_47 wa_int (fun M46 hM47 => ?_)
  have h48 := le_nA hM47
  have o49 := h48.ok o45
  have o50 := ok_nA hM47
  refine s_putrF (pc := 49) F_5 5 rfl o49 rfl rfl rfl rfl rfl dX5_init_49 kf_X5_27 (fun M51 hM52 => ?_)
  have h53 := le_wR hM52
  have o54 := h53.ok o49
  refine s_aload_n (pc := 52) 0 dX5_init_52 rfl rfl ?_
  refine s_bipush (pc := 53) 7 dX5_init_53 kb_7 ?_
  refine s_newa_int (pc := 55) (And.intro (by decide) (by decide)) dX5_init_55 wa_int (fun M55 hM56 => ?_)
  have h57 := le_nA hM56
  have o58 := h57.ok o54
  have o59 := ok_nA hM56
  refine s_putrF (pc := 57) F_5 6 rfl o58 rfl rfl rfl rfl rfl dX5_init_57 kf_X5_30 (fun M60 hM61 => ?_)
  have h62 := le_wR hM61
  have o63 := h62.ok o58
  exact s_vret rfl dX5_init_60
set_option maxRecDepth 100000 in
set_option maxHeartbeats 8000000 in
noncomputable def f_X5_isOf (M : Mem) (a0 : Nat) (p1 : Int32) (p2 : Int32) : Option Int32 :=
  grd (okO M 5 a0) (if (mI M a0 8) = p1 then (if (mI M a0 9) = p2 then (some 1) else (some 0)) else (some 0))
abbrev Y_X5_isOf : Sta := (RX5, "isOf", cX5_isOf, 3, (some .boolean), 1)
set_option maxRecDepth 100000 in
set_option maxHeartbeats 8000000 in
theorem t_X5_isOf {l : Launch} {G : Gh} {M : Mem} {a0 : Nat} {p1 : Int32} {p2 : Int32} {q : Int32} (h : f_X5_isOf M a0 p1 p2 = some q) : Ctr l G yX5_isOf Y_X5_isOf M [.ref (gh G + a0), .int p1, .int p2] M (some (.int q)) := by
  refine Ctr.of (Y := Y_X5_isOf) (L := [some (.ref (gh G + a0)), some (.int p1), some (.int p2)]) (t := Option.bind (f_X5_isOf M a0 p1 p2) (fun q => some (M, some (.int q)))) (by decide) rfl rfl (nle rfl) (Lof_in 0 _ rfl) (fun X hG hl => ?_) (by rw [h]; rfl)
  subst hG
  subst hl
  unfold f_X5_isOf
  refine s_aload_n (pc := 0) 0 dX5_isOf_0 rfl rfl ?_
  refine s_grd (fun o1 => ?_)
  refine s_geti (pc := 1) F_5 8 rfl o1 dX5_isOf_1 kf_X5_33 ?_
  refine s_iload_n (pc := 4) 1 dX5_isOf_4 rfl rfl ?_
  refine s_icne (pc := 5) 20 dX5_isOf_5 rfl ?_ ?_
  · refine s_iconst (pc := 20) 0 dX5_isOf_20 kc_0 ?_
    exact s_zret rfl rfl dX5_isOf_21
  · refine s_aload_n (pc := 8) 0 dX5_isOf_8 rfl rfl ?_
    refine s_geti (pc := 9) F_5 9 rfl o1 dX5_isOf_9 kf_X5_37 ?_
    refine s_iload_n (pc := 12) 2 dX5_isOf_12 rfl rfl ?_
    refine s_icne (pc := 13) 20 dX5_isOf_13 rfl ?_ ?_
    · refine s_iconst (pc := 20) 0 dX5_isOf_20 kc_0 ?_
      exact s_zret rfl rfl dX5_isOf_21
    · refine s_iconst (pc := 16) 1 dX5_isOf_16 kc_1 ?_
      refine s_goto (pc := 17) 21 dX5_isOf_17 rfl ?_
      exact s_zret rfl rfl dX5_isOf_21
set_option maxRecDepth 100000 in
set_option maxHeartbeats 8000000 in
noncomputable def f_X5_nearest (M : Mem) (a0 : Nat) (p1 : Int32) (p2 : Int32) : Option Int32 :=
  Option.bind (loopO (σ := Int32 × Int32) (ρ := Int32) (fun s1 => grd (okO M 5 a0) (if (mI M a0 7) ≤ s1.2 then (some (.inr s1.1)) else (bv (fun (s11 : Int32) => bv (s1.2 + 1 : Int32) (fun x14 => some (.inl (s11, x14)))) (fun j10 => if ((sr p1 s1.2) &&& 1) = 1 then (Option.bind (mR M a0 1) (fun r15 => grd (okO M 14 r15) (grd (vp_in ((s1.2 * 6) + p2) (mL M r15)) (bv (mmin s1.1 (mI M r15 ((s1.2 * 6) + p2).toNatClampNeg) : Int32) (fun x18 => j10 x18))))) else (j10 s1.1))))) (1000000, 0)) (fun (x7 : Int32) => some x7)
abbrev Y_X5_nearest : Sta := (RX5, "nearest", cX5_nearest, 5, (some .int), 1)
set_option maxRecDepth 100000 in
set_option maxHeartbeats 8000000 in
theorem t_X5_nearest {l : Launch} {G : Gh} {M : Mem} {a0 : Nat} {p1 : Int32} {p2 : Int32} {q : Int32} (h : f_X5_nearest M a0 p1 p2 = some q) : Ctr l G yX5_nearest Y_X5_nearest M [.ref (gh G + a0), .int p1, .int p2] M (some (.int q)) := by
  refine Ctr.of (Y := Y_X5_nearest) (L := [some (.ref (gh G + a0)), some (.int p1), some (.int p2), none, none]) (t := Option.bind (f_X5_nearest M a0 p1 p2) (fun q => some (M, some (.int q)))) (by decide) rfl rfl (nle rfl) (Lof_in 2 _ rfl) (fun X hG hl => ?_) (by rw [h]; rfl)
  subst hG
  subst hl
  unfold f_X5_nearest
  refine s_ldc (pc := 0) dX5_nearest_0 ki_X5_43 ?_
  refine s_istore_n (pc := 2) 3 dX5_nearest_2 rfl (nlt rfl) rfl (L' := [some (.ref (gh (xG X) + a0)), some (.int p1), some (.int p2), some (.int 1000000), none]) rfl ?_
  refine s_iconst (pc := 3) 0 dX5_nearest_3 kc_0 ?_
  refine s_istore (pc := 4) dX5_nearest_4 (nlt rfl) rfl (L' := [some (.ref (gh (xG X) + a0)), some (.int p1), some (.int p2), some (.int 1000000), some (.int 0)]) rfl ?_
  refine s_drop (L' := [some (.ref (gh (xG X) + a0)), some (.int p1), some (.int p2), some (.int 1000000), some (.int 0)]) ?_ (And.intro rfl (And.intro rfl (And.intro rfl (And.intro rfl (And.intro rfl trivial)))))
  refine s_loop1 M (fun s1 : Int32 × Int32 => M) (fun s1 : Int32 × Int32 => [some (.ref (gh (xG X) + a0)), some (.int p1), some (.int p2), some (.int s1.1), some (.int s1.2)]) (fun x7 : Int32 => M) 48 (fun x7 : Int32 => [none, none, none, some (.int x7), none]) (fun x7 hx8 => ?_) (fun T3 R5 hT4 hR6 s1 hs2 => ?_) (1000000, 0) Le.rf
  · show S0 X _ M 48 [none, none, none, some (.int x7), none] [] _
    refine s_iload_n (pc := 48) 3 dX5_nearest_48 rfl rfl ?_
    exact s_iret rfl dX5_nearest_49
  · show S0 X _ M 6 [some (.ref (gh (xG X) + a0)), some (.int p1), some (.int p2), some (.int s1.1), some (.int s1.2)] [] _
    refine s_iload (pc := 6) dX5_nearest_6 rfl ?_
    refine s_aload_n (pc := 8) 0 dX5_nearest_8 rfl rfl ?_
    refine s_grd (fun o9 => ?_)
    refine s_geti (pc := 9) F_5 7 rfl o9 dX5_nearest_9 kf_X5_40 ?_
    refine s_icge (pc := 12) 48 dX5_nearest_12 rfl ?_ ?_
    · exact s_drop (hR6 s1.1 Le.rf) (And.intro rfl trivial)
    · refine s_iload_n (pc := 15) 1 dX5_nearest_15 rfl rfl ?_
      refine s_iload (pc := 16) dX5_nearest_16 rfl ?_
      refine s_ishr (pc := 18) dX5_nearest_18 ?_
      refine s_iconst (pc := 19) 1 dX5_nearest_19 kc_1 ?_
      refine s_iand (pc := 20) dX5_nearest_20 ?_
      refine s_iconst (pc := 21) 1 dX5_nearest_21 kc_1 ?_
      refine s_join M (fun s11 : Int32 => M) 42 (fun s11 : Int32 => [some (.ref (gh (xG X) + a0)), some (.int p1), some (.int p2), some (.int s11), some (.int s1.2)]) (fun s11 : Int32 => []) (fun s11 hs12 => ?_) (fun j10 hj13 => ?_)
      · show S0 X _ M 42 [some (.ref (gh (xG X) + a0)), some (.int p1), some (.int p2), some (.int s11), some (.int s1.2)] [] _
        refine s_iinc (pc := 42) dX5_nearest_42 rfl (v := s1.2 + 1) (congrArg (fun z : Int32 => s1.2 + z) kc_1) (nlt rfl) rfl (L' := [some (.ref (gh (xG X) + a0)), some (.int p1), some (.int p2), some (.int s11), some (.int (s1.2 + 1))]) rfl ?_
        refine s_bv (fun x14 : Int32 => [some (.ref (gh (xG X) + a0)), some (.int p1), some (.int p2), some (.int s11), some (.int x14)]) (fun x14 => ?_) rfl
        refine s_goto (pc := 45) 6 dX5_nearest_45 rfl ?_
        exact s_drop (hT4 (s11, x14) Le.rf) (And.intro rfl (And.intro rfl (And.intro rfl (And.intro rfl (And.intro rfl trivial)))))
      · refine s_icne (pc := 22) 42 dX5_nearest_22 rfl ?_ ?_
        · exact s_drop (hj13 s1.1 Le.rf) (And.intro rfl (And.intro rfl (And.intro rfl (And.intro rfl (And.intro rfl trivial)))))
        · refine s_iload_n (pc := 25) 3 dX5_nearest_25 rfl rfl ?_
          refine s_aload_n (pc := 26) 0 dX5_nearest_26 rfl rfl ?_
          refine s_geto (pc := 27) F_5 1 rfl o9 dX5_nearest_27 kf_X5_15 ?_
          refine s_rvB (fun r15 => ?_)
          refine s_iload (pc := 30) dX5_nearest_30 rfl ?_
          refine s_bipush (pc := 32) 6 dX5_nearest_32 kb_6 ?_
          refine s_imul (pc := 34) dX5_nearest_34 ?_
          refine s_iload_n (pc := 35) 2 dX5_nearest_35 rfl rfl ?_
          refine s_iadd (pc := 36) dX5_nearest_36 ?_
          refine s_grd (fun o16 => ?_)
          refine s_grd (fun i17 => ?_)
          refine s_iald (pc := 37) o16 i17 dX5_nearest_37 ?_
          refine s_mmin (pc := 38) km_X5_73 wt_J9_min_7cf53 wn_J9 wc_mmin (nle rfl) (nle rfl) dX5_nearest_38 ?_
          refine s_istore_n (pc := 41) 3 dX5_nearest_41 rfl (nlt rfl) rfl (L' := [some (.ref (gh (xG X) + a0)), some (.int p1), some (.int p2), some (.int (mmin s1.1 (mI M r15 ((s1.2 * 6) + p2).toNatClampNeg))), some (.int s1.2)]) rfl ?_
          refine s_bv (fun x18 : Int32 => [some (.ref (gh (xG X) + a0)), some (.int p1), some (.int p2), some (.int x18), some (.int s1.2)]) (fun x18 => ?_) rfl
          exact s_drop (hj13 x18 Le.rf) (And.intro rfl (And.intro rfl (And.intro rfl (And.intro rfl (And.intro rfl trivial)))))
set_option maxRecDepth 100000 in
set_option maxHeartbeats 8000000 in
noncomputable def f_X5_noteRow (M : Mem) (a0 : Nat) : Option Mem :=
  grd (okO M 5 a0) (bv (fun (s3 : Mem) => bv (wI s3 a0 11 ((mI s3 a0 11) + 1)) (fun M7 => some M7)) (fun j2 => if (mI M a0 11) = 0 then (Option.bind (mR M a0 2) (fun r11 => Option.bind (mR M a0 3) (fun r12 => grd (okO M 14 r11) (grd (okO M 14 r12) (grd (cpok 0 (mI M a0 7) (mL M r11)) (grd (cpok 0 (mI M a0 7) (mL M r12)) (bv (cpI M r11 0 r12 0 (mI M a0 7)) (fun M17 => j2 M17)))))))) else (j2 M)))
abbrev Y_X5_noteRow : Sta := (RX5, "noteRow", cX5_noteRow, 1, none, 1)
set_option maxRecDepth 100000 in
set_option maxHeartbeats 8000000 in
theorem t_X5_noteRow {l : Launch} {G : Gh} {M : Mem} {a0 : Nat} {q : Mem} (h : f_X5_noteRow M a0 = some q) : Ctr l G yX5_noteRow Y_X5_noteRow M [.ref (gh G + a0)] q (none) := by
  refine Ctr.of (Y := Y_X5_noteRow) (L := [some (.ref (gh G + a0))]) (t := Option.bind (f_X5_noteRow M a0) (fun q => some (q, (none : Option Value)))) (by decide) rfl rfl (nle rfl) (Lof_in 0 _ rfl) (fun X hG hl => ?_) (by rw [h]; rfl)
  subst hG
  subst hl
  unfold f_X5_noteRow
  refine s_aload_n (pc := 0) 0 dX5_noteRow_0 rfl rfl ?_
  refine s_grd (fun o1 => ?_)
  refine s_geti (pc := 1) F_5 11 rfl o1 dX5_noteRow_1 kf_X5_48 ?_
  refine s_join M (fun s3 : Mem => s3) 24 (fun s3 : Mem => [some (.ref (gh (xG X) + a0))]) (fun s3 : Mem => []) (fun s3 hs4 => ?_) (fun j2 hj5 => ?_)
  · show S0 X _ s3 24 [some (.ref (gh (xG X) + a0))] [] _
    have o6 := hs4.ok o1
    refine s_aload_n (pc := 24) 0 dX5_noteRow_24 rfl rfl ?_
    refine s_dup (pc := 25) dX5_noteRow_25 rfl ?_
    refine s_geti (pc := 26) F_5 11 rfl o6 dX5_noteRow_26 kf_X5_48 ?_
    refine s_iconst (pc := 29) 1 dX5_noteRow_29 kc_1 ?_
    refine s_iadd (pc := 30) dX5_noteRow_30 ?_
    refine s_puti (pc := 31) F_5 11 rfl o6 rfl rfl rfl dX5_noteRow_31 kf_X5_48 (fun M7 hM8 => ?_)
    have h9 := le_wI hM8
    have o10 := h9.ok o6
    exact s_vret rfl dX5_noteRow_34
  · refine s_ifne (pc := 4) 24 dX5_noteRow_4 rfl ?_ ?_
    · exact s_drop (hj5 M Le.rf) (And.intro rfl trivial)
    · refine s_aload_n (pc := 7) 0 dX5_noteRow_7 rfl rfl ?_
      refine s_geto (pc := 8) F_5 2 rfl o1 dX5_noteRow_8 kf_X5_18 ?_
      refine s_rvB (fun r11 => ?_)
      refine s_iconst (pc := 11) 0 dX5_noteRow_11 kc_0 ?_
      refine s_aload_n (pc := 12) 0 dX5_noteRow_12 rfl rfl ?_
      refine s_geto (pc := 13) F_5 3 rfl o1 dX5_noteRow_13 kf_X5_21 ?_
      refine s_rvB (fun r12 => ?_)
      refine s_iconst (pc := 16) 0 dX5_noteRow_16 kc_0 ?_
      refine s_aload_n (pc := 17) 0 dX5_noteRow_17 rfl rfl ?_
      refine s_geti (pc := 18) F_5 7 rfl o1 dX5_noteRow_18 kf_X5_40 ?_
      refine s_grd (fun o13 => ?_)
      refine s_grd (fun o14 => ?_)
      refine s_grd (fun g15 => ?_)
      refine s_grd (fun g16 => ?_)
      refine s_copyi (pc := 21) o13 o14 g15 g16 cpyW km_X5_88 (nle rfl) (nle rfl) dX5_noteRow_21 (fun M17 hM18 => ?_)
      have h19 := le_cI hM18
      have o20 := h19.ok o1
      exact s_drop (hj5 M17 h19) (And.intro rfl trivial)
set_option maxRecDepth 100000 in
set_option maxHeartbeats 8000000 in
noncomputable def f_X5_setSteps (M : Mem) (a0 : Nat) (p1 : Int32) (p2 : Int32) (p3 : Int32) : Option Mem :=
  bv ((p1 * 6) + p2 : Int32) (fun x1 => if x1 < 0 then (some M) else (grd (okO M 5 a0) (Option.bind (mR M a0 1) (fun r3 => grd (okO M 14 r3) (if (nI (mL M r3)) ≤ x1 then (some M) else (Option.bind (mR M a0 1) (fun r5 => bv (fun (s7 : Int32) => grd (okO M 14 r5) (grd (vp_in x1 (mL M r5)) (bv (wI M r5 x1.toNatClampNeg s7) (fun M12 => some M12)))) (fun j6 => if p3 = (-1) then (j6 1000000) else (j6 p3)))))))))
abbrev Y_X5_setSteps : Sta := (RX5, "setSteps", cX5_setSteps, 5, none, 1)
set_option maxRecDepth 100000 in
set_option maxHeartbeats 8000000 in
theorem t_X5_setSteps {l : Launch} {G : Gh} {M : Mem} {a0 : Nat} {p1 : Int32} {p2 : Int32} {p3 : Int32} {q : Mem} (h : f_X5_setSteps M a0 p1 p2 p3 = some q) : Ctr l G yX5_setSteps Y_X5_setSteps M [.ref (gh G + a0), .int p1, .int p2, .int p3] q (none) := by
  refine Ctr.of (Y := Y_X5_setSteps) (L := [some (.ref (gh G + a0)), some (.int p1), some (.int p2), some (.int p3), none]) (t := Option.bind (f_X5_setSteps M a0 p1 p2 p3) (fun q => some (q, (none : Option Value)))) (by decide) rfl rfl (nle rfl) (Lof_in 1 _ rfl) (fun X hG hl => ?_) (by rw [h]; rfl)
  subst hG
  subst hl
  unfold f_X5_setSteps
  refine s_iload_n (pc := 0) 1 dX5_setSteps_0 rfl rfl ?_
  refine s_bipush (pc := 1) 6 dX5_setSteps_1 kb_6 ?_
  refine s_imul (pc := 3) dX5_setSteps_3 ?_
  refine s_iload_n (pc := 4) 2 dX5_setSteps_4 rfl rfl ?_
  refine s_iadd (pc := 5) dX5_setSteps_5 ?_
  refine s_istore (pc := 6) dX5_setSteps_6 (nlt rfl) rfl (L' := [some (.ref (gh (xG X) + a0)), some (.int p1), some (.int p2), some (.int p3), some (.int ((p1 * 6) + p2))]) rfl ?_
  refine s_bv (fun x1 : Int32 => [some (.ref (gh (xG X) + a0)), some (.int p1), some (.int p2), some (.int p3), some (.int x1)]) (fun x1 => ?_) rfl
  refine s_iload (pc := 8) dX5_setSteps_8 rfl ?_
  refine s_iflt (pc := 10) 41 dX5_setSteps_10 rfl ?_ ?_
  · exact s_vret rfl dX5_setSteps_41
  · refine s_iload (pc := 13) dX5_setSteps_13 rfl ?_
    refine s_aload_n (pc := 15) 0 dX5_setSteps_15 rfl rfl ?_
    refine s_grd (fun o2 => ?_)
    refine s_geto (pc := 16) F_5 1 rfl o2 dX5_setSteps_16 kf_X5_15 ?_
    refine s_rvB (fun r3 => ?_)
    refine s_grd (fun o4 => ?_)
    refine s_alen (pc := 19) 14 (And.intro (nle rfl) (nle rfl)) o4 dX5_setSteps_19 ?_
    refine s_icge (pc := 20) 41 dX5_setSteps_20 rfl ?_ ?_
    · exact s_vret rfl dX5_setSteps_41
    · refine s_aload_n (pc := 23) 0 dX5_setSteps_23 rfl rfl ?_
      refine s_geto (pc := 24) F_5 1 rfl o2 dX5_setSteps_24 kf_X5_15 ?_
      refine s_rvB (fun r5 => ?_)
      refine s_iload (pc := 27) dX5_setSteps_27 rfl ?_
      refine s_iload_n (pc := 29) 3 dX5_setSteps_29 rfl rfl ?_
      refine s_iconst (pc := 30) (-1) dX5_setSteps_30 kc_m1 ?_
      refine s_join M (fun s7 : Int32 => M) 40 (fun s7 : Int32 => [none, none, none, none, none]) (fun s7 : Int32 => [.int s7, .int x1, .ref (gh (xG X) + r5)]) (fun s7 hs8 => ?_) (fun j6 hj9 => ?_)
      · show S0 X _ M 40 [none, none, none, none, none] [.int s7, .int x1, .ref (gh (xG X) + r5)] _
        refine s_grd (fun o10 => ?_)
        refine s_grd (fun i11 => ?_)
        refine s_iast (pc := 40) o10 i11 dX5_setSteps_40 (fun M12 hM13 => ?_)
        have h14 := le_wI hM13
        exact s_vret rfl dX5_setSteps_41
      · refine s_icne (pc := 31) 39 dX5_setSteps_31 rfl ?_ ?_
        · refine s_iload_n (pc := 39) 3 dX5_setSteps_39 rfl rfl ?_
          exact s_drop (hj9 p3 Le.rf) trivial
        · refine s_ldc (pc := 34) dX5_setSteps_34 ki_X5_43 ?_
          refine s_goto (pc := 36) 40 dX5_setSteps_36 rfl ?_
          exact s_drop (hj9 1000000 Le.rf) trivial
set_option maxRecDepth 100000 in
set_option maxHeartbeats 8000000 in
noncomputable def f_X5_take (M : Mem) (a0 : Nat) (p1 : Int32) (p2 : Int32) : Option Mem :=
  grd (okO M 5 a0) (bv (wI M a0 8 p1) (fun M2 => bv (wI M2 a0 9 p2) (fun M6 => bv (wI M6 a0 7 0) (fun M10 => Option.bind (loopO (σ := Mem × Int32) (ρ := Mem) (fun s14 => if 12 ≤ s14.2 then (some (.inr s14.1)) else (if 6 ≤ (mI s14.1 a0 7) then (some (.inr s14.1)) else (bv (fun (s24 : Mem) => bv (s14.2 + 1 : Int32) (fun x28 => some (.inl (s24, x28)))) (fun j23 => if ((sr (mI s14.1 a0 8) s14.2) &&& 1) = 1 then (Option.bind (mR s14.1 a0 0) (fun r29 => grd (okO s14.1 14 r29) (grd (vp_in (mI s14.1 a0 7) (mL s14.1 r29)) (bv (wI s14.1 r29 (mI s14.1 a0 7).toNatClampNeg s14.2) (fun M32 => bv (wI M32 a0 7 ((mI M32 a0 7) + 1)) (fun M36 => j23 M36)))))) else (j23 s14.1))))) (M10, 0)) (fun (x21 : Mem) => some x21)))))
abbrev Y_X5_take : Sta := (RX5, "take", cX5_take, 4, none, 1)
set_option maxRecDepth 100000 in
set_option maxHeartbeats 8000000 in
theorem t_X5_take {l : Launch} {G : Gh} {M : Mem} {a0 : Nat} {p1 : Int32} {p2 : Int32} {q : Mem} (h : f_X5_take M a0 p1 p2 = some q) : Ctr l G yX5_take Y_X5_take M [.ref (gh G + a0), .int p1, .int p2] q (none) := by
  refine Ctr.of (Y := Y_X5_take) (L := [some (.ref (gh G + a0)), some (.int p1), some (.int p2), none]) (t := Option.bind (f_X5_take M a0 p1 p2) (fun q => some (q, (none : Option Value)))) (by decide) rfl rfl (nle rfl) (Lof_in 1 _ rfl) (fun X hG hl => ?_) (by rw [h]; rfl)
  subst hG
  subst hl
  unfold f_X5_take
  refine s_aload_n (pc := 0) 0 dX5_take_0 rfl rfl ?_
  refine s_iload_n (pc := 1) 1 dX5_take_1 rfl rfl ?_
  refine s_grd (fun o1 => ?_)
  refine s_puti (pc := 2) F_5 8 rfl o1 rfl rfl rfl dX5_take_2 kf_X5_33 (fun M2 hM3 => ?_)
  have h4 := le_wI hM3
  have o5 := h4.ok o1
  refine s_aload_n (pc := 5) 0 dX5_take_5 rfl rfl ?_
  refine s_iload_n (pc := 6) 2 dX5_take_6 rfl rfl ?_
  refine s_puti (pc := 7) F_5 9 rfl o5 rfl rfl rfl dX5_take_7 kf_X5_37 (fun M6 hM7 => ?_)
  have h8 := le_wI hM7
  have o9 := h8.ok o5
  refine s_aload_n (pc := 10) 0 dX5_take_10 rfl rfl ?_
  refine s_iconst (pc := 11) 0 dX5_take_11 kc_0 ?_
  refine s_puti (pc := 12) F_5 7 rfl o9 rfl rfl rfl dX5_take_12 kf_X5_40 (fun M10 hM11 => ?_)
  have h12 := le_wI hM11
  have o13 := h12.ok o9
  refine s_iconst (pc := 15) 0 dX5_take_15 kc_0 ?_
  refine s_istore_n (pc := 16) 3 dX5_take_16 rfl (nlt rfl) rfl (L' := [some (.ref (gh (xG X) + a0)), some (.int p1), some (.int p2), some (.int 0)]) rfl ?_
  refine s_drop (L' := [some (.ref (gh (xG X) + a0)), none, none, some (.int 0)]) ?_ (And.intro rfl (And.intro rfl trivial))
  refine s_loop1 M10 (fun s14 : Mem × Int32 => s14.1) (fun s14 : Mem × Int32 => [some (.ref (gh (xG X) + a0)), none, none, some (.int s14.2)]) (fun x21 : Mem => x21) 70 (fun x21 : Mem => [none, none, none, none]) (fun x21 hx22 => ?_) (fun T16 R18 hT17 hR19 s14 hs15 => ?_) (M10, 0) Le.rf
  · show S0 X _ x21 70 [none, none, none, none] [] _
    exact s_vret rfl dX5_take_70
  · show S0 X _ s14.1 17 [some (.ref (gh (xG X) + a0)), none, none, some (.int s14.2)] [] _
    have o20 := hs15.ok o13
    refine s_iload_n (pc := 17) 3 dX5_take_17 rfl rfl ?_
    refine s_bipush (pc := 18) 12 dX5_take_18 kb_12 ?_
    refine s_icge (pc := 20) 70 dX5_take_20 rfl ?_ ?_
    · exact s_drop (hR19 s14.1 hs15) trivial
    · refine s_aload_n (pc := 23) 0 dX5_take_23 rfl rfl ?_
      refine s_geti (pc := 24) F_5 7 rfl o20 dX5_take_24 kf_X5_40 ?_
      refine s_bipush (pc := 27) 6 dX5_take_27 kb_6 ?_
      refine s_icge (pc := 29) 70 dX5_take_29 rfl ?_ ?_
      · exact s_drop (hR19 s14.1 hs15) trivial
      · refine s_aload_n (pc := 32) 0 dX5_take_32 rfl rfl ?_
        refine s_geti (pc := 33) F_5 8 rfl o20 dX5_take_33 kf_X5_33 ?_
        refine s_iload_n (pc := 36) 3 dX5_take_36 rfl rfl ?_
        refine s_ishr (pc := 37) dX5_take_37 ?_
        refine s_iconst (pc := 38) 1 dX5_take_38 kc_1 ?_
        refine s_iand (pc := 39) dX5_take_39 ?_
        refine s_iconst (pc := 40) 1 dX5_take_40 kc_1 ?_
        refine s_join s14.1 (fun s24 : Mem => s24) 64 (fun s24 : Mem => [some (.ref (gh (xG X) + a0)), none, none, some (.int s14.2)]) (fun s24 : Mem => []) (fun s24 hs25 => ?_) (fun j23 hj26 => ?_)
        · show S0 X _ s24 64 [some (.ref (gh (xG X) + a0)), none, none, some (.int s14.2)] [] _
          have o27 := hs25.ok o20
          refine s_iinc (pc := 64) dX5_take_64 rfl (v := s14.2 + 1) (congrArg (fun z : Int32 => s14.2 + z) kc_1) (nlt rfl) rfl (L' := [some (.ref (gh (xG X) + a0)), none, none, some (.int (s14.2 + 1))]) rfl ?_
          refine s_bv (fun x28 : Int32 => [some (.ref (gh (xG X) + a0)), none, none, some (.int x28)]) (fun x28 => ?_) rfl
          refine s_goto (pc := 67) 17 dX5_take_67 rfl ?_
          exact s_drop (hT17 (s24, x28) (hs15.tr hs25)) (And.intro rfl (And.intro rfl trivial))
        · refine s_icne (pc := 41) 64 dX5_take_41 rfl ?_ ?_
          · exact s_drop (hj26 s14.1 Le.rf) (And.intro rfl (And.intro rfl trivial))
          · refine s_aload_n (pc := 44) 0 dX5_take_44 rfl rfl ?_
            refine s_geto (pc := 45) F_5 0 rfl o20 dX5_take_45 kf_X5_9 ?_
            refine s_rvB (fun r29 => ?_)
            refine s_aload_n (pc := 48) 0 dX5_take_48 rfl rfl ?_
            refine s_geti (pc := 49) F_5 7 rfl o20 dX5_take_49 kf_X5_40 ?_
            refine s_iload_n (pc := 52) 3 dX5_take_52 rfl rfl ?_
            refine s_grd (fun o30 => ?_)
            refine s_grd (fun i31 => ?_)
            refine s_iast (pc := 53) o30 i31 dX5_take_53 (fun M32 hM33 => ?_)
            have h34 := le_wI hM33
            have o35 := h34.ok o20
            refine s_aload_n (pc := 54) 0 dX5_take_54 rfl rfl ?_
            refine s_dup (pc := 55) dX5_take_55 rfl ?_
            refine s_geti (pc := 56) F_5 7 rfl o35 dX5_take_56 kf_X5_40 ?_
            refine s_iconst (pc := 59) 1 dX5_take_59 kc_1 ?_
            refine s_iadd (pc := 60) dX5_take_60 ?_
            refine s_puti (pc := 61) F_5 7 rfl o35 rfl rfl rfl dX5_take_61 kf_X5_40 (fun M36 hM37 => ?_)
            have h38 := le_wI hM37
            have o39 := h38.ok o35
            exact s_drop (hj26 M36 (h34.tr h38)) (And.intro rfl (And.intro rfl trivial))
set_option maxRecDepth 100000 in
set_option maxHeartbeats 8000000 in
noncomputable def f_X6_hasPlace (M : Mem) (a0 : Nat) (p1 : Int32) : Option Int32 :=
  if p1 < 0 then (some 0) else (grd (okO M 6 a0) (if (mI M a0 2) ≤ p1 then (some 0) else (some 1)))
abbrev Y_X6_hasPlace : Sta := (RX6, "hasPlace", cX6_hasPlace, 2, (some .boolean), 1)
set_option maxRecDepth 100000 in
set_option maxHeartbeats 8000000 in
theorem t_X6_hasPlace {l : Launch} {G : Gh} {M : Mem} {a0 : Nat} {p1 : Int32} {q : Int32} (h : f_X6_hasPlace M a0 p1 = some q) : Ctr l G yX6_hasPlace Y_X6_hasPlace M [.ref (gh G + a0), .int p1] M (some (.int q)) := by
  refine Ctr.of (Y := Y_X6_hasPlace) (L := [some (.ref (gh G + a0)), some (.int p1)]) (t := Option.bind (f_X6_hasPlace M a0 p1) (fun q => some (M, some (.int q)))) (by decide) rfl rfl (nle rfl) (Lof_in 0 _ rfl) (fun X hG hl => ?_) (by rw [h]; rfl)
  subst hG
  subst hl
  unfold f_X6_hasPlace
  refine s_iload_n (pc := 0) 1 dX6_hasPlace_0 rfl rfl ?_
  refine s_iflt (pc := 1) 16 dX6_hasPlace_1 rfl ?_ ?_
  · refine s_iconst (pc := 16) 0 dX6_hasPlace_16 kc_0 ?_
    exact s_zret rfl rfl dX6_hasPlace_17
  · refine s_iload_n (pc := 4) 1 dX6_hasPlace_4 rfl rfl ?_
    refine s_aload_n (pc := 5) 0 dX6_hasPlace_5 rfl rfl ?_
    refine s_grd (fun o1 => ?_)
    refine s_geti (pc := 6) F_6 2 rfl o1 dX6_hasPlace_6 kf_X6_29 ?_
    refine s_icge (pc := 9) 16 dX6_hasPlace_9 rfl ?_ ?_
    · refine s_iconst (pc := 16) 0 dX6_hasPlace_16 kc_0 ?_
      exact s_zret rfl rfl dX6_hasPlace_17
    · refine s_iconst (pc := 12) 1 dX6_hasPlace_12 kc_1 ?_
      refine s_goto (pc := 13) 17 dX6_hasPlace_13 rfl ?_
      exact s_zret rfl rfl dX6_hasPlace_17
set_option maxRecDepth 100000 in
set_option maxHeartbeats 8000000 in
noncomputable def f_X6_hasRoomAt (M : Mem) (a0 : Nat) (p1 : Int32) : Option Int32 :=
  if p1 < 0 then (some 0) else (grd (okO M 6 a0) (if (mI M a0 2) < p1 then (some 0) else (if 5 ≤ (mI M a0 2) then (some 0) else (some 1))))
abbrev Y_X6_hasRoomAt : Sta := (RX6, "hasRoomAt", cX6_hasRoomAt, 2, (some .boolean), 1)
set_option maxRecDepth 100000 in
set_option maxHeartbeats 8000000 in
theorem t_X6_hasRoomAt {l : Launch} {G : Gh} {M : Mem} {a0 : Nat} {p1 : Int32} {q : Int32} (h : f_X6_hasRoomAt M a0 p1 = some q) : Ctr l G yX6_hasRoomAt Y_X6_hasRoomAt M [.ref (gh G + a0), .int p1] M (some (.int q)) := by
  refine Ctr.of (Y := Y_X6_hasRoomAt) (L := [some (.ref (gh G + a0)), some (.int p1)]) (t := Option.bind (f_X6_hasRoomAt M a0 p1) (fun q => some (M, some (.int q)))) (by decide) rfl rfl (nle rfl) (Lof_in 0 _ rfl) (fun X hG hl => ?_) (by rw [h]; rfl)
  subst hG
  subst hl
  unfold f_X6_hasRoomAt
  refine s_iload_n (pc := 0) 1 dX6_hasRoomAt_0 rfl rfl ?_
  refine s_iflt (pc := 1) 24 dX6_hasRoomAt_1 rfl ?_ ?_
  · refine s_iconst (pc := 24) 0 dX6_hasRoomAt_24 kc_0 ?_
    exact s_zret rfl rfl dX6_hasRoomAt_25
  · refine s_iload_n (pc := 4) 1 dX6_hasRoomAt_4 rfl rfl ?_
    refine s_aload_n (pc := 5) 0 dX6_hasRoomAt_5 rfl rfl ?_
    refine s_grd (fun o1 => ?_)
    refine s_geti (pc := 6) F_6 2 rfl o1 dX6_hasRoomAt_6 kf_X6_29 ?_
    refine s_icgt (pc := 9) 24 dX6_hasRoomAt_9 rfl ?_ ?_
    · refine s_iconst (pc := 24) 0 dX6_hasRoomAt_24 kc_0 ?_
      exact s_zret rfl rfl dX6_hasRoomAt_25
    · refine s_aload_n (pc := 12) 0 dX6_hasRoomAt_12 rfl rfl ?_
      refine s_geti (pc := 13) F_6 2 rfl o1 dX6_hasRoomAt_13 kf_X6_29 ?_
      refine s_iconst (pc := 16) 5 dX6_hasRoomAt_16 kc_5 ?_
      refine s_icge (pc := 17) 24 dX6_hasRoomAt_17 rfl ?_ ?_
      · refine s_iconst (pc := 24) 0 dX6_hasRoomAt_24 kc_0 ?_
        exact s_zret rfl rfl dX6_hasRoomAt_25
      · refine s_iconst (pc := 20) 1 dX6_hasRoomAt_20 kc_1 ?_
        refine s_goto (pc := 21) 25 dX6_hasRoomAt_21 rfl ?_
        exact s_zret rfl rfl dX6_hasRoomAt_25
set_option maxRecDepth 100000 in
set_option maxHeartbeats 8000000 in
noncomputable def f_X6_init (M : Mem) (a0 : Nat) : Option Mem :=
  bv (nA M 14 (5 : Int32).toNatClampNeg) (fun M1 => grd (okO M1 6 a0) (bv (wR M1 a0 0 (some (mn M))) (fun M6 => bv (nA M6 14 (6 : Int32).toNatClampNeg) (fun M10 => bv (wR M10 a0 1 (some (mn M6))) (fun M15 => some M15)))))
abbrev Y_X6_init : Sta := (RX6, "<init>", cX6_init, 1, none, 1)
set_option maxRecDepth 100000 in
set_option maxHeartbeats 8000000 in
theorem t_X6_init {l : Launch} {G : Gh} {M : Mem} {a0 : Nat} {q : Mem} (h : f_X6_init M a0 = some q) : Ctr l G yX6_init Y_X6_init M [.ref (gh G + a0)] q (none) := by
  refine Ctr.of (Y := Y_X6_init) (L := [some (.ref (gh G + a0))]) (t := Option.bind (f_X6_init M a0) (fun q => some (q, (none : Option Value)))) (by decide) rfl rfl (nle rfl) (Lof_in 0 _ rfl) (fun X hG hl => ?_) (by rw [h]; rfl)
  subst hG
  subst hl
  unfold f_X6_init
  refine s_aload_n (pc := 0) 0 dX6_init_0 rfl rfl ?_
  refine s_obj (pc := 1) km_X6_3 wi_obj wc_obj (nle rfl) (nle rfl) dX6_init_1 ?_
  refine s_aload_n (pc := 4) 0 dX6_init_4 rfl rfl ?_
  refine s_iconst (pc := 5) 5 dX6_init_5 kc_5 ?_
  refine s_newa_int (pc := 6) (And.intro (by decide) (by decide)) dX6_init_6 wa_int (fun M1 hM2 => ?_)
  have h3 := le_nA hM2
  have o4 := ok_nA hM2
  refine s_grd (fun o5 => ?_)
  refine s_putrF (pc := 8) F_6 0 rfl o5 rfl rfl rfl rfl rfl dX6_init_8 kf_X6_9 (fun M6 hM7 => ?_)
  have h8 := le_wR hM7
  have o9 := h8.ok o5
  refine s_aload_n (pc := 11) 0 dX6_init_11 rfl rfl ?_
  refine s_bipush (pc := 12) 6 dX6_init_12 kb_6 ?_
  refine s_newa_int (pc := 14) (And.intro (by decide) (by decide)) dX6_init_14 wa_int (fun M10 hM11 => ?_)
  have h12 := le_nA hM11
  have o13 := h12.ok o9
  have o14 := ok_nA hM11
  refine s_putrF (pc := 16) F_6 1 rfl o13 rfl rfl rfl rfl rfl dX6_init_16 kf_X6_15 (fun M15 hM16 => ?_)
  have h17 := le_wR hM16
  have o18 := h17.ok o13
  exact s_vret rfl dX6_init_19
