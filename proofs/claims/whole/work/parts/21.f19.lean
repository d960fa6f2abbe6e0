set_option maxRecDepth 100000 in
set_option maxHeartbeats 8000000 in
noncomputable def b_X7_part (g_X7_inSquare : Mem → Nat → Int32 → Option (Mem × Int32)) (M : Mem) (a0 : Nat) (p1 : Int32) : Option (Mem × Int32) :=
  grd (okO M 7 a0) (if (mI M a0 8) = 91 then (Option.bind (g_X7_inSquare M a0 p1) (fun q61 => grd (bl q61.2) (some (q61.1, q61.2)))) else (bv (fun (s3 : Unit) => Option.bind (f_X7_fail M a0) (fun q6 => grd (bl q6.2) (some (q6.1, q6.2)))) (fun j2 => if 50 ≤ (mI M a0 9) then (j2 ()) else (if (mI M a0 8) ≤ 2000 then (bv (wI M a0 9 ((mI M a0 9) + 1)) (fun M12 => if (mI M12 a0 8) < 1000 then (bv (fun (s17 : Mem × Int32) => if s17.2 = (-1) then (Option.bind (f_X7_fail s17.1 a0) (fun q33 => grd (bl q33.2) (some (q33.1, q33.2)))) else (Option.bind (mR s17.1 a0 3) (fun r21 => grd (okO s17.1 9 r21) (Option.bind (f_X9_emit s17.1 r21 2 s17.2) (fun q23 => Option.bind (f_X7_next q23.1 a0) (fun q28 => some (q28, 1))))))) (fun j16 => if (mI M12 a0 6) = 0 then (Option.bind (f_X7_lawWord M12 a0) (fun q39 => j16 (q39.1, q39.2))) else (Option.bind (f_X7_orderWord M12 a0) (fun q44 => j16 (q44.1, q44.2))))) else (Option.bind (mR M12 a0 3) (fun r49 => grd (okO M12 9 r49) (Option.bind (f_X9_emit M12 r49 1 ((mI M12 a0 8) - 1000)) (fun q51 => Option.bind (f_X7_next q51.1 a0) (fun q56 => some (q56, 1)))))))) else (j2 ())))))
set_option maxRecDepth 100000 in
set_option maxHeartbeats 8000000 in
theorem t_X7_part {d : Nat} {g_X7_inSquare : Mem → Nat → Int32 → Option (Mem × Int32)} {l : Launch} {G : Gh} {M : Mem} {a0 : Nat} {p1 : Int32} {q : Mem × Int32} (hg_X7_inSquare : ∀ X : Ctx, xG X = G → xl X = l → ∀ (M : Mem) (a0 : Nat) (p1 : Int32) (q : Mem × Int32), g_X7_inSquare M a0 p1 = some q → Ctr (xl X) (xG X) yX7_inSquare (Y_X7_inSquare d) M [.ref (gh (xG X) + a0), .int p1] q.1 (some (.int q.2))) (h : b_X7_part g_X7_inSquare M a0 p1 = some q) : Ctr l G yX7_part (Y_X7_part (d + 1)) M [.ref (gh G + a0), .int p1] q.1 (some (.int q.2)) := by
  refine Ctr.of (Y := (Y_X7_part (d + 1))) (L := [some (.ref (gh G + a0)), some (.int p1), none]) (t := Option.bind (b_X7_part g_X7_inSquare M a0 p1) (fun q => some (q.1, some (.int q.2)))) (by decide) rfl rfl (nle rfl) (Lof_in 1 _ rfl) (fun X hG hl => ?_) (by rw [h]; rfl)
  subst hG
  subst hl
  unfold b_X7_part
  refine s_aload_n (pc := 0) 0 dX7_part_0 rfl rfl ?_
  refine s_grd (fun o1 => ?_)
  refine s_geti (pc := 1) F_7 8 rfl o1 dX7_part_1 kf_X7_66 ?_
  refine s_bipush (pc := 4) 91 dX7_part_4 kb_91 ?_
  refine s_icne (pc := 6) 15 dX7_part_6 rfl ?_ ?_
  · refine s_aload_n (pc := 15) 0 dX7_part_15 rfl rfl ?_
    refine s_geti (pc := 16) F_7 9 rfl o1 dX7_part_16 kf_X7_54 ?_
    refine s_bipush (pc := 19) 50 dX7_part_19 kb_50 ?_
    refine s_join M (fun s3 : Unit => M) 34 (fun s3 : Unit => [some (.ref (gh (xG X) + a0)), none, none]) (fun s3 : Unit => []) (fun s3 hs4 => ?_) (fun j2 hj5 => ?_)
    · show S0 X _ M 34 [some (.ref (gh (xG X) + a0)), none, none] [] _
      refine s_aload_n (pc := 34) 0 dX7_part_34 rfl rfl ?_
      refine s_bind (fun q6 hq7 => ?_)
      have hC8 := t_X7_fail (l := xl X) (G := xG X) hq7
      refine s_callV (pc := 35) (As := []) (st := []) (nlt rfl) (q := (RX7, TX7, 10)) rfl rfl o1 cl_X7_fail wi_X7_fail wl_X7_fail km_X7_76 rfl rfl (Nat.le_trans (nle rfl : _ ≤ 3) (Nat.le_add_right 3 _)) (nle rfl) (nle rfl) dX7_part_35 hC8 ?_
      have h9 := hC8.1 X
      have o10 := h9.ok o1
      show S0 X _ q6.1 38 [some (.ref (gh (xG X) + a0)), none, none] [.int q6.2] _
      refine s_grd (fun g11 => ?_)
      exact s_zret rfl g11 dX7_part_38
    · refine s_icge (pc := 21) 34 dX7_part_21 rfl ?_ ?_
      · exact s_drop (hj5 () Le.rf) (And.intro rfl trivial)
      · refine s_aload_n (pc := 24) 0 dX7_part_24 rfl rfl ?_
        refine s_geti (pc := 25) F_7 8 rfl o1 dX7_part_25 kf_X7_66 ?_
        refine s_sipush (pc := 28) 2000 dX7_part_28 ks_2000 ?_
        refine s_icle (pc := 31) 39 dX7_part_31 rfl ?_ ?_
        · refine s_aload_n (pc := 39) 0 dX7_part_39 rfl rfl ?_
          refine s_dup (pc := 40) dX7_part_40 rfl ?_
          refine s_geti (pc := 41) F_7 9 rfl o1 dX7_part_41 kf_X7_54 ?_
          refine s_iconst (pc := 44) 1 dX7_part_44 kc_1 ?_
          refine s_iadd (pc := 45) dX7_part_45 ?_
          refine s_puti (pc := 46) F_7 9 rfl o1 rfl rfl rfl dX7_part_46 kf_X7_54 (fun M12 hM13 => ?_)
          have h14 := le_wI hM13
          have o15 := h14.ok o1
          refine s_aload_n (pc := 49) 0 dX7_part_49 rfl rfl ?_
          refine s_geti (pc := 50) F_7 8 rfl o15 dX7_part_50 kf_X7_66 ?_
          refine s_sipush (pc := 53) 1000 dX7_part_53 ks_1000 ?_
          refine s_iclt (pc := 56) 82 dX7_part_56 rfl ?_ ?_
          · refine s_aload_n (pc := 82) 0 dX7_part_82 rfl rfl ?_
            refine s_geti (pc := 83) F_7 6 rfl o15 dX7_part_83 kf_X7_50 ?_
            refine s_join M12 (fun s17 : Mem × Int32 => s17.1) 100 (fun s17 : Mem × Int32 => [some (.ref (gh (xG X) + a0)), none, none]) (fun s17 : Mem × Int32 => [.int s17.2]) (fun s17 hs18 => ?_) (fun j16 hj19 => ?_)
            · show S0 X _ s17.1 100 [some (.ref (gh (xG X) + a0)), none, none] [.int s17.2] _
              have o20 := hs18.ok o15
              refine s_istore_n (pc := 100) 2 dX7_part_100 rfl (nlt rfl) rfl (L' := [some (.ref (gh (xG X) + a0)), none, some (.int s17.2)]) rfl ?_
              refine s_iload_n (pc := 101) 2 dX7_part_101 rfl rfl ?_
              refine s_iconst (pc := 102) (-1) dX7_part_102 kc_m1 ?_
              refine s_icne (pc := 103) 111 dX7_part_103 rfl ?_ ?_
              · refine s_aload_n (pc := 111) 0 dX7_part_111 rfl rfl ?_
                refine s_geto (pc := 112) F_7 3 rfl o20 dX7_part_112 kf_X7_26 ?_
                refine s_rvB (fun r21 => ?_)
                refine s_iconst (pc := 115) 2 dX7_part_115 kc_2 ?_
                refine s_iload_n (pc := 116) 2 dX7_part_116 rfl rfl ?_
                refine s_grd (fun o22 => ?_)
                refine s_bind (fun q23 hq24 => ?_)
                have hC25 := t_X9_emit (l := xl X) (G := xG X) hq24
                refine s_callV (pc := 117) (As := [.int 2, .int s17.2]) (st := []) (nlt rfl) (q := (RX9, TX9, 5)) rfl rfl o22 cl_X9_emit wi_X9_emit wl_X9_emit km_X7_134 rfl rfl (Nat.le_trans (nle rfl : _ ≤ 3) (Nat.le_add_right 3 _)) (nle rfl) (nle rfl) dX7_part_117 hC25 ?_
                have h26 := hC25.1 X
                have o27 := h26.ok o20
                show S0 X _ q23.1 120 [some (.ref (gh (xG X) + a0)), none, some (.int s17.2)] [.int q23.2] _
                refine s_pop (pc := 120) dX7_part_120 rfl ?_
                refine s_aload_n (pc := 121) 0 dX7_part_121 rfl rfl ?_
                refine s_bind (fun q28 hq29 => ?_)
                have hC30 := t_X7_next (l := xl X) (G := xG X) hq29
                refine s_callV (pc := 122) (As := []) (st := []) (nlt rfl) (q := (RX7, TX7, 10)) rfl rfl o27 cl_X7_next wi_X7_next wl_X7_next km_X7_79 rfl rfl (Nat.le_trans (nle rfl : _ ≤ 3) (Nat.le_add_right 3 _)) (nle rfl) (nle rfl) dX7_part_122 hC30 ?_
                have h31 := hC30.1 X
                have o32 := h31.ok o27
                show S0 X _ q28 125 [some (.ref (gh (xG X) + a0)), none, some (.int s17.2)] [] _
                refine s_iconst (pc := 125) 1 dX7_part_125 kc_1 ?_
                exact s_zret rfl rfl dX7_part_126
              · refine s_aload_n (pc := 106) 0 dX7_part_106 rfl rfl ?_
                refine s_bind (fun q33 hq34 => ?_)
                have hC35 := t_X7_fail (l := xl X) (G := xG X) hq34
                refine s_callV (pc := 107) (As := []) (st := []) (nlt rfl) (q := (RX7, TX7, 10)) rfl rfl o20 cl_X7_fail wi_X7_fail wl_X7_fail km_X7_76 rfl rfl (Nat.le_trans (nle rfl : _ ≤ 3) (Nat.le_add_right 3 _)) (nle rfl) (nle rfl) dX7_part_107 hC35 ?_
                have h36 := hC35.1 X
                have o37 := h36.ok o20
                show S0 X _ q33.1 110 [some (.ref (gh (xG X) + a0)), none, some (.int s17.2)] [.int q33.2] _
                refine s_grd (fun g38 => ?_)
                exact s_zret rfl g38 dX7_part_110
            · refine s_ifeq (pc := 86) 96 dX7_part_86 rfl ?_ ?_
              · refine s_aload_n (pc := 96) 0 dX7_part_96 rfl rfl ?_
                refine s_bind (fun q39 hq40 => ?_)
                have hC41 := t_X7_lawWord (l := xl X) (G := xG X) hq40
                refine s_callV (pc := 97) (As := []) (st := []) (nlt rfl) (q := (RX7, TX7, 10)) rfl rfl o15 cl_X7_lawWord wi_X7_lawWord wl_X7_lawWord km_X7_167 rfl rfl (Nat.le_trans (nle rfl : _ ≤ 3) (Nat.le_add_right 3 _)) (nle rfl) (nle rfl) dX7_part_97 hC41 ?_
                have h42 := hC41.1 X
                have o43 := h42.ok o15
                show S0 X _ q39.1 100 [some (.ref (gh (xG X) + a0)), some (.int p1), none] [.int q39.2] _
                exact s_drop (hj19 (q39.1, q39.2) h42) (And.intro rfl trivial)
              · refine s_aload_n (pc := 89) 0 dX7_part_89 rfl rfl ?_
                refine s_bind (fun q44 hq45 => ?_)
                have hC46 := t_X7_orderWord (l := xl X) (G := xG X) hq45
                refine s_callV (pc := 90) (As := []) (st := []) (nlt rfl) (q := (RX7, TX7, 10)) rfl rfl o15 cl_X7_orderWord wi_X7_orderWord wl_X7_orderWord km_X7_164 rfl rfl (Nat.le_trans (nle rfl : _ ≤ 3) (Nat.le_add_right 3 _)) (nle rfl) (nle rfl) dX7_part_90 hC46 ?_
                have h47 := hC46.1 X
                have o48 := h47.ok o15
                show S0 X _ q44.1 93 [some (.ref (gh (xG X) + a0)), some (.int p1), none] [.int q44.2] _
                refine s_goto (pc := 93) 100 dX7_part_93 rfl ?_
                exact s_drop (hj19 (q44.1, q44.2) h47) (And.intro rfl trivial)
          · refine s_aload_n (pc := 59) 0 dX7_part_59 rfl rfl ?_
            refine s_geto (pc := 60) F_7 3 rfl o15 dX7_part_60 kf_X7_26 ?_
            refine s_rvB (fun r49 => ?_)
            refine s_iconst (pc := 63) 1 dX7_part_63 kc_1 ?_
            refine s_aload_n (pc := 64) 0 dX7_part_64 rfl rfl ?_
            refine s_geti (pc := 65) F_7 8 rfl o15 dX7_part_65 kf_X7_66 ?_
            refine s_sipush (pc := 68) 1000 dX7_part_68 ks_1000 ?_
            refine s_isub (pc := 71) dX7_part_71 ?_
            refine s_grd (fun o50 => ?_)
            refine s_bind (fun q51 hq52 => ?_)
            have hC53 := t_X9_emit (l := xl X) (G := xG X) hq52
            refine s_callV (pc := 72) (As := [.int 1, .int ((mI M12 a0 8) - 1000)]) (st := []) (nlt rfl) (q := (RX9, TX9, 5)) rfl rfl o50 cl_X9_emit wi_X9_emit wl_X9_emit km_X7_134 rfl rfl (Nat.le_trans (nle rfl : _ ≤ 3) (Nat.le_add_right 3 _)) (nle rfl) (nle rfl) dX7_part_72 hC53 ?_
            have h54 := hC53.1 X
            have o55 := h54.ok o15
            show S0 X _ q51.1 75 [some (.ref (gh (xG X) + a0)), some (.int p1), none] [.int q51.2] _
            refine s_pop (pc := 75) dX7_part_75 rfl ?_
            refine s_aload_n (pc := 76) 0 dX7_part_76 rfl rfl ?_
            refine s_bind (fun q56 hq57 => ?_)
            have hC58 := t_X7_next (l := xl X) (G := xG X) hq57
            refine s_callV (pc := 77) (As := []) (st := []) (nlt rfl) (q := (RX7, TX7, 10)) rfl rfl o55 cl_X7_next wi_X7_next wl_X7_next km_X7_79 rfl rfl (Nat.le_trans (nle rfl : _ ≤ 3) (Nat.le_add_right 3 _)) (nle rfl) (nle rfl) dX7_part_77 hC58 ?_
            have h59 := hC58.1 X
            have o60 := h59.ok o55
            show S0 X _ q56 80 [some (.ref (gh (xG X) + a0)), some (.int p1), none] [] _
            refine s_iconst (pc := 80) 1 dX7_part_80 kc_1 ?_
            exact s_zret rfl rfl dX7_part_81
        · exact s_drop (hj5 () Le.rf) (And.intro rfl trivial)
  · refine s_aload_n (pc := 9) 0 dX7_part_9 rfl rfl ?_
    refine s_iload_n (pc := 10) 1 dX7_part_10 rfl rfl ?_
    refine s_bind (fun q61 hq62 => ?_)
    have hC63 := hg_X7_inSquare X rfl rfl M a0 p1 q61 hq62
    refine s_callV (pc := 11) (As := [.int p1]) (st := []) (nlt rfl) (q := (RX7, TX7, 10)) rfl rfl o1 cl_X7_inSquare wi_X7_inSquare wl_X7_inSquare km_X7_161 rfl rfl (Nat.le_refl _) (nle rfl) (nle rfl) dX7_part_11 hC63 ?_
    have h64 := hC63.1 X
    have o65 := h64.ok o1
    show S0 X _ q61.1 14 [some (.ref (gh (xG X) + a0)), some (.int p1), none] [.int q61.2] _
    refine s_grd (fun g66 => ?_)
    exact s_zret rfl g66 dX7_part_14
set_option maxRecDepth 100000 in
set_option maxHeartbeats 8000000 in
noncomputable def b_X7_sum (g_X7_term : Mem → Nat → Int32 → Option (Mem × Int32)) (M : Mem) (a0 : Nat) (p1 : Int32) : Option (Mem × Int32) :=
  grd (okO M 7 a0) (Option.bind (g_X7_term M a0 p1) (fun q2 => if q2.2 = 0 then (some (q2.1, 0)) else (Option.bind (f_X7_opOf q2.1 a0 3 4) (fun q7 => Option.bind (loopO (σ := Mem × Int32 × Int32) (ρ := Mem ⊕ Mem) (fun s10 => if 400 ≤ s10.2.2 then (some (.inr (.inl s10.1))) else (if s10.2.1 = (-1) then (some (.inr (.inl s10.1))) else (Option.bind (f_X7_next s10.1 a0) (fun q23 => Option.bind (g_X7_term q23 a0 p1) (fun q28 => if q28.2 = 0 then (some (.inr (.inr q28.1))) else (Option.bind (mR q28.1 a0 3) (fun r33 => grd (okO q28.1 9 r33) (Option.bind (f_X9_emit q28.1 r33 s10.2.1 0) (fun q35 => Option.bind (f_X7_opOf q35.1 a0 3 4) (fun q40 => bv (s10.2.2 + 1 : Int32) (fun x43 => some (.inl (q35.1, q40, x43))))))))))))) (q2.1, q7, 0)) (Sum.elim (fun (x19 : Mem) => some (x19, 1)) (fun (x21 : Mem) => some (x21, 0)))))))
set_option maxRecDepth 100000 in
set_option maxHeartbeats 8000000 in
theorem t_X7_sum {d : Nat} {g_X7_term : Mem → Nat → Int32 → Option (Mem × Int32)} {l : Launch} {G : Gh} {M : Mem} {a0 : Nat} {p1 : Int32} {q : Mem × Int32} (hg_X7_term : ∀ X : Ctx, xG X = G → xl X = l → ∀ (M : Mem) (a0 : Nat) (p1 : Int32) (q : Mem × Int32), g_X7_term M a0 p1 = some q → Ctr (xl X) (xG X) yX7_term (Y_X7_term d) M [.ref (gh (xG X) + a0), .int p1] q.1 (some (.int q.2))) (h : b_X7_sum g_X7_term M a0 p1 = some q) : Ctr l G yX7_sum (Y_X7_sum (d + 1)) M [.ref (gh G + a0), .int p1] q.1 (some (.int q.2)) := by
  refine Ctr.of (Y := (Y_X7_sum (d + 1))) (L := [some (.ref (gh G + a0)), some (.int p1), none, none]) (t := Option.bind (b_X7_sum g_X7_term M a0 p1) (fun q => some (q.1, some (.int q.2)))) (by decide) rfl rfl (nle rfl) (Lof_in 2 _ rfl) (fun X hG hl => ?_) (by rw [h]; rfl)
  subst hG
  subst hl
  unfold b_X7_sum
  refine s_aload_n (pc := 0) 0 dX7_sum_0 rfl rfl ?_
  refine s_iload_n (pc := 1) 1 dX7_sum_1 rfl rfl ?_
  refine s_grd (fun o1 => ?_)
  refine s_bind (fun q2 hq3 => ?_)
  have hC4 := hg_X7_term X rfl rfl M a0 p1 q2 hq3
  refine s_callV (pc := 2) (As := [.int p1]) (st := []) (nlt rfl) (q := (RX7, TX7, 10)) rfl rfl o1 cl_X7_term wi_X7_term wl_X7_term km_X7_155 rfl rfl (Nat.le_refl _) (nle rfl) (nle rfl) dX7_sum_2 hC4 ?_
  have h5 := hC4.1 X
  have o6 := h5.ok o1
  show S0 X _ q2.1 5 [some (.ref (gh (xG X) + a0)), some (.int p1), none, none] [.int q2.2] _
  refine s_ifne (pc := 5) 10 dX7_sum_5 rfl ?_ ?_
  · refine s_aload_n (pc := 10) 0 dX7_sum_10 rfl rfl ?_
    refine s_iconst (pc := 11) 3 dX7_sum_11 kc_3 ?_
    refine s_iconst (pc := 12) 4 dX7_sum_12 kc_4 ?_
    refine s_bind (fun q7 hq8 => ?_)
    have hC9 := t_X7_opOf (l := xl X) (G := xG X) hq8
    refine s_callV (pc := 13) (As := [.int 3, .int 4]) (st := []) (nlt rfl) (q := (RX7, TX7, 10)) rfl rfl o6 cl_X7_opOf wi_X7_opOf wl_X7_opOf km_X7_152 rfl rfl (Nat.le_trans (nle rfl : _ ≤ 3) (Nat.le_add_right 3 _)) (nle rfl) (nle rfl) dX7_sum_13 hC9 ?_
    show S0 X _ q2.1 16 [some (.ref (gh (xG X) + a0)), some (.int p1), none, none] [.int q7] _
    refine s_istore_n (pc := 16) 2 dX7_sum_16 rfl (nlt rfl) rfl (L' := [some (.ref (gh (xG X) + a0)), some (.int p1), some (.int q7), none]) rfl ?_
    refine s_iconst (pc := 17) 0 dX7_sum_17 kc_0 ?_
    refine s_istore_n (pc := 18) 3 dX7_sum_18 rfl (nlt rfl) rfl (L' := [some (.ref (gh (xG X) + a0)), some (.int p1), some (.int q7), some (.int 0)]) rfl ?_
    refine s_drop (L' := [some (.ref (gh (xG X) + a0)), some (.int p1), some (.int q7), some (.int 0)]) ?_ (And.intro rfl (And.intro rfl (And.intro rfl (And.intro rfl trivial))))
    refine s_loop2 q2.1 (fun s10 : Mem × Int32 × Int32 => s10.1) (fun s10 : Mem × Int32 × Int32 => [some (.ref (gh (xG X) + a0)), some (.int p1), some (.int s10.2.1), some (.int s10.2.2)]) (fun x19 : Mem => x19) 68 (fun x19 : Mem => [none, none, none, none]) (fun x21 : Mem => x21) 43 (fun x21 : Mem => [none, none, none, none]) (fun x19 hx20 => ?_) (fun x21 hx22 => ?_) (fun T12 R14 R16 hT13 hR15 hR17 s10 hs11 => ?_) (q2.1, q7, 0) Le.rf
    · show S0 X _ x19 68 [none, none, none, none] [] _
      refine s_iconst (pc := 68) 1 dX7_sum_68 kc_1 ?_
      exact s_zret rfl rfl dX7_sum_69
    · show S0 X _ x21 43 [none, none, none, none] [] _
      refine s_iconst (pc := 43) 0 dX7_sum_43 kc_0 ?_
      exact s_zret rfl rfl dX7_sum_44
    · show S0 X _ s10.1 19 [some (.ref (gh (xG X) + a0)), some (.int p1), some (.int s10.2.1), some (.int s10.2.2)] [] _
      have o18 := hs11.ok o6
      refine s_iload_n (pc := 19) 3 dX7_sum_19 rfl rfl ?_
      refine s_sipush (pc := 20) 400 dX7_sum_20 ks_400 ?_
      refine s_icge (pc := 23) 68 dX7_sum_23 rfl ?_ ?_
      · exact s_drop (hR15 s10.1 hs11) trivial
      · refine s_iload_n (pc := 26) 2 dX7_sum_26 rfl rfl ?_
        refine s_iconst (pc := 27) (-1) dX7_sum_27 kc_m1 ?_
        refine s_iceq (pc := 28) 68 dX7_sum_28 rfl ?_ ?_
        · exact s_drop (hR15 s10.1 hs11) trivial
        · refine s_aload_n (pc := 31) 0 dX7_sum_31 rfl rfl ?_
          refine s_bind (fun q23 hq24 => ?_)
          have hC25 := t_X7_next (l := xl X) (G := xG X) hq24
          refine s_callV (pc := 32) (As := []) (st := []) (nlt rfl) (q := (RX7, TX7, 10)) rfl rfl o18 cl_X7_next wi_X7_next wl_X7_next km_X7_79 rfl rfl (Nat.le_trans (nle rfl : _ ≤ 3) (Nat.le_add_right 3 _)) (nle rfl) (nle rfl) dX7_sum_32 hC25 ?_
          have h26 := hC25.1 X
          have o27 := h26.ok o18
          show S0 X _ q23 35 [some (.ref (gh (xG X) + a0)), some (.int p1), some (.int s10.2.1), some (.int s10.2.2)] [] _
          refine s_aload_n (pc := 35) 0 dX7_sum_35 rfl rfl ?_
          refine s_iload_n (pc := 36) 1 dX7_sum_36 rfl rfl ?_
          refine s_bind (fun q28 hq29 => ?_)
          have hC30 := hg_X7_term X rfl rfl q23 a0 p1 q28 hq29
          refine s_callV (pc := 37) (As := [.int p1]) (st := []) (nlt rfl) (q := (RX7, TX7, 10)) rfl rfl o27 cl_X7_term wi_X7_term wl_X7_term km_X7_155 rfl rfl (Nat.le_refl _) (nle rfl) (nle rfl) dX7_sum_37 hC30 ?_
          have h31 := hC30.1 X
          have o32 := h31.ok o27
          show S0 X _ q28.1 40 [some (.ref (gh (xG X) + a0)), some (.int p1), some (.int s10.2.1), some (.int s10.2.2)] [.int q28.2] _
          refine s_ifne (pc := 40) 45 dX7_sum_40 rfl ?_ ?_
          · refine s_aload_n (pc := 45) 0 dX7_sum_45 rfl rfl ?_
            refine s_geto (pc := 46) F_7 3 rfl o32 dX7_sum_46 kf_X7_26 ?_
            refine s_rvB (fun r33 => ?_)
            refine s_iload_n (pc := 49) 2 dX7_sum_49 rfl rfl ?_
            refine s_iconst (pc := 50) 0 dX7_sum_50 kc_0 ?_
            refine s_grd (fun o34 => ?_)
            refine s_bind (fun q35 hq36 => ?_)
            have hC37 := t_X9_emit (l := xl X) (G := xG X) hq36
            refine s_callV (pc := 51) (As := [.int s10.2.1, .int 0]) (st := []) (nlt rfl) (q := (RX9, TX9, 5)) rfl rfl o34 cl_X9_emit wi_X9_emit wl_X9_emit km_X7_134 rfl rfl (Nat.le_trans (nle rfl : _ ≤ 3) (Nat.le_add_right 3 _)) (nle rfl) (nle rfl) dX7_sum_51 hC37 ?_
            have h38 := hC37.1 X
            have o39 := h38.ok o32
            show S0 X _ q35.1 54 [some (.ref (gh (xG X) + a0)), some (.int p1), some (.int s10.2.1), some (.int s10.2.2)] [.int q35.2] _
            refine s_pop (pc := 54) dX7_sum_54 rfl ?_
            refine s_aload_n (pc := 55) 0 dX7_sum_55 rfl rfl ?_
            refine s_iconst (pc := 56) 3 dX7_sum_56 kc_3 ?_
            refine s_iconst (pc := 57) 4 dX7_sum_57 kc_4 ?_
            refine s_bind (fun q40 hq41 => ?_)
            have hC42 := t_X7_opOf (l := xl X) (G := xG X) hq41
            refine s_callV (pc := 58) (As := [.int 3, .int 4]) (st := []) (nlt rfl) (q := (RX7, TX7, 10)) rfl rfl o39 cl_X7_opOf wi_X7_opOf wl_X7_opOf km_X7_152 rfl rfl (Nat.le_trans (nle rfl : _ ≤ 3) (Nat.le_add_right 3 _)) (nle rfl) (nle rfl) dX7_sum_58 hC42 ?_
            show S0 X _ q35.1 61 [some (.ref (gh (xG X) + a0)), some (.int p1), some (.int s10.2.1), some (.int s10.2.2)] [.int q40] _
            refine s_istore_n (pc := 61) 2 dX7_sum_61 rfl (nlt rfl) rfl (L' := [some (.ref (gh (xG X) + a0)), some (.int p1), some (.int q40), some (.int s10.2.2)]) rfl ?_
            refine s_iinc (pc := 62) dX7_sum_62 rfl (v := s10.2.2 + 1) (congrArg (fun z : Int32 => s10.2.2 + z) kc_1) (nlt rfl) rfl (L' := [some (.ref (gh (xG X) + a0)), some (.int p1), some (.int q40), some (.int (s10.2.2 + 1))]) rfl ?_
            refine s_bv (fun x43 : Int32 => [some (.ref (gh (xG X) + a0)), some (.int p1), some (.int q40), some (.int x43)]) (fun x43 => ?_) rfl
            refine s_goto (pc := 65) 19 dX7_sum_65 rfl ?_
            exact s_drop (hT13 (q35.1, q40, x43) (hs11.tr (h26.tr (h31.tr h38)))) (And.intro rfl (And.intro rfl (And.intro rfl (And.intro rfl trivial))))
          · exact s_drop (hR17 q28.1 (hs11.tr (h26.tr h31))) trivial
  · refine s_iconst (pc := 8) 0 dX7_sum_8 kc_0 ?_
    exact s_zret rfl rfl dX7_sum_9
set_option maxRecDepth 100000 in
set_option maxHeartbeats 8000000 in
noncomputable def b_X7_term (g_X7_part : Mem → Nat → Int32 → Option (Mem × Int32)) (M : Mem) (a0 : Nat) (p1 : Int32) : Option (Mem × Int32) :=
  grd (okO M 7 a0) (Option.bind (g_X7_part M a0 p1) (fun q2 => if q2.2 = 0 then (some (q2.1, 0)) else (Option.bind (f_X7_opOf q2.1 a0 5 7) (fun q7 => Option.bind (loopO (σ := Mem × Int32 × Int32) (ρ := Mem ⊕ Mem) (fun s10 => if 400 ≤ s10.2.2 then (some (.inr (.inl s10.1))) else (if s10.2.1 = (-1) then (some (.inr (.inl s10.1))) else (Option.bind (f_X7_next s10.1 a0) (fun q23 => Option.bind (g_X7_part q23 a0 p1) (fun q28 => if q28.2 = 0 then (some (.inr (.inr q28.1))) else (Option.bind (mR q28.1 a0 3) (fun r33 => grd (okO q28.1 9 r33) (Option.bind (f_X9_emit q28.1 r33 s10.2.1 0) (fun q35 => Option.bind (f_X7_opOf q35.1 a0 5 7) (fun q40 => bv (s10.2.2 + 1 : Int32) (fun x43 => some (.inl (q35.1, q40, x43))))))))))))) (q2.1, q7, 0)) (Sum.elim (fun (x19 : Mem) => some (x19, 1)) (fun (x21 : Mem) => some (x21, 0)))))))
set_option maxRecDepth 100000 in
set_option maxHeartbeats 8000000 in
theorem t_X7_term {d : Nat} {g_X7_part : Mem → Nat → Int32 → Option (Mem × Int32)} {l : Launch} {G : Gh} {M : Mem} {a0 : Nat} {p1 : Int32} {q : Mem × Int32} (hg_X7_part : ∀ X : Ctx, xG X = G → xl X = l → ∀ (M : Mem) (a0 : Nat) (p1 : Int32) (q : Mem × Int32), g_X7_part M a0 p1 = some q → Ctr (xl X) (xG X) yX7_part (Y_X7_part d) M [.ref (gh (xG X) + a0), .int p1] q.1 (some (.int q.2))) (h : b_X7_term g_X7_part M a0 p1 = some q) : Ctr l G yX7_term (Y_X7_term (d + 1)) M [.ref (gh G + a0), .int p1] q.1 (some (.int q.2)) := by
  refine Ctr.of (Y := (Y_X7_term (d + 1))) (L := [some (.ref (gh G + a0)), some (.int p1), none, none]) (t := Option.bind (b_X7_term g_X7_part M a0 p1) (fun q => some (q.1, some (.int q.2)))) (by decide) rfl rfl (nle rfl) (Lof_in 2 _ rfl) (fun X hG hl => ?_) (by rw [h]; rfl)
  subst hG
  subst hl
  unfold b_X7_term
  refine s_aload_n (pc := 0) 0 dX7_term_0 rfl rfl ?_
  refine s_iload_n (pc := 1) 1 dX7_term_1 rfl rfl ?_
  refine s_grd (fun o1 => ?_)
  refine s_bind (fun q2 hq3 => ?_)
  have hC4 := hg_X7_part X rfl rfl M a0 p1 q2 hq3
  refine s_callV (pc := 2) (As := [.int p1]) (st := []) (nlt rfl) (q := (RX7, TX7, 10)) rfl rfl o1 cl_X7_part wi_X7_part wl_X7_part km_X7_158 rfl rfl (Nat.le_refl _) (nle rfl) (nle rfl) dX7_term_2 hC4 ?_
  have h5 := hC4.1 X
  have o6 := h5.ok o1
  show S0 X _ q2.1 5 [some (.ref (gh (xG X) + a0)), some (.int p1), none, none] [.int q2.2] _
  refine s_ifne (pc := 5) 10 dX7_term_5 rfl ?_ ?_
  · refine s_aload_n (pc := 10) 0 dX7_term_10 rfl rfl ?_
    refine s_iconst (pc := 11) 5 dX7_term_11 kc_5 ?_
    refine s_bipush (pc := 12) 7 dX7_term_12 kb_7 ?_
    refine s_bind (fun q7 hq8 => ?_)
    have hC9 := t_X7_opOf (l := xl X) (G := xG X) hq8
    refine s_callV (pc := 14) (As := [.int 5, .int 7]) (st := []) (nlt rfl) (q := (RX7, TX7, 10)) rfl rfl o6 cl_X7_opOf wi_X7_opOf wl_X7_opOf km_X7_152 rfl rfl (Nat.le_trans (nle rfl : _ ≤ 3) (Nat.le_add_right 3 _)) (nle rfl) (nle rfl) dX7_term_14 hC9 ?_
    show S0 X _ q2.1 17 [some (.ref (gh (xG X) + a0)), some (.int p1), none, none] [.int q7] _
    refine s_istore_n (pc := 17) 2 dX7_term_17 rfl (nlt rfl) rfl (L' := [some (.ref (gh (xG X) + a0)), some (.int p1), some (.int q7), none]) rfl ?_
    refine s_iconst (pc := 18) 0 dX7_term_18 kc_0 ?_
    refine s_istore_n (pc := 19) 3 dX7_term_19 rfl (nlt rfl) rfl (L' := [some (.ref (gh (xG X) + a0)), some (.int p1), some (.int q7), some (.int 0)]) rfl ?_
    refine s_drop (L' := [some (.ref (gh (xG X) + a0)), some (.int p1), some (.int q7), some (.int 0)]) ?_ (And.intro rfl (And.intro rfl (And.intro rfl (And.intro rfl trivial))))
    refine s_loop2 q2.1 (fun s10 : Mem × Int32 × Int32 => s10.1) (fun s10 : Mem × Int32 × Int32 => [some (.ref (gh (xG X) + a0)), some (.int p1), some (.int s10.2.1), some (.int s10.2.2)]) (fun x19 : Mem => x19) 70 (fun x19 : Mem => [none, none, none, none]) (fun x21 : Mem => x21) 44 (fun x21 : Mem => [none, none, none, none]) (fun x19 hx20 => ?_) (fun x21 hx22 => ?_) (fun T12 R14 R16 hT13 hR15 hR17 s10 hs11 => ?_) (q2.1, q7, 0) Le.rf
    · show S0 X _ x19 70 [none, none, none, none] [] _
      refine s_iconst (pc := 70) 1 dX7_term_70 kc_1 ?_
      exact s_zret rfl rfl dX7_term_71
    · show S0 X _ x21 44 [none, none, none, none] [] _
      refine s_iconst (pc := 44) 0 dX7_term_44 kc_0 ?_
      exact s_zret rfl rfl dX7_term_45
    · show S0 X _ s10.1 20 [some (.ref (gh (xG X) + a0)), some (.int p1), some (.int s10.2.1), some (.int s10.2.2)] [] _
      have o18 := hs11.ok o6
      refine s_iload_n (pc := 20) 3 dX7_term_20 rfl rfl ?_
      refine s_sipush (pc := 21) 400 dX7_term_21 ks_400 ?_
      refine s_icge (pc := 24) 70 dX7_term_24 rfl ?_ ?_
      · exact s_drop (hR15 s10.1 hs11) trivial
      · refine s_iload_n (pc := 27) 2 dX7_term_27 rfl rfl ?_
        refine s_iconst (pc := 28) (-1) dX7_term_28 kc_m1 ?_
        refine s_iceq (pc := 29) 70 dX7_term_29 rfl ?_ ?_
        · exact s_drop (hR15 s10.1 hs11) trivial
        · refine s_aload_n (pc := 32) 0 dX7_term_32 rfl rfl ?_
          refine s_bind (fun q23 hq24 => ?_)
          have hC25 := t_X7_next (l := xl X) (G := xG X) hq24
          refine s_callV (pc := 33) (As := []) (st := []) (nlt rfl) (q := (RX7, TX7, 10)) rfl rfl o18 cl_X7_next wi_X7_next wl_X7_next km_X7_79 rfl rfl (Nat.le_trans (nle rfl : _ ≤ 3) (Nat.le_add_right 3 _)) (nle rfl) (nle rfl) dX7_term_33 hC25 ?_
          have h26 := hC25.1 X
          have o27 := h26.ok o18
          show S0 X _ q23 36 [some (.ref (gh (xG X) + a0)), some (.int p1), some (.int s10.2.1), some (.int s10.2.2)] [] _
          refine s_aload_n (pc := 36) 0 dX7_term_36 rfl rfl ?_
          refine s_iload_n (pc := 37) 1 dX7_term_37 rfl rfl ?_
          refine s_bind (fun q28 hq29 => ?_)
          have hC30 := hg_X7_part X rfl rfl q23 a0 p1 q28 hq29
          refine s_callV (pc := 38) (As := [.int p1]) (st := []) (nlt rfl) (q := (RX7, TX7, 10)) rfl rfl o27 cl_X7_part wi_X7_part wl_X7_part km_X7_158 rfl rfl (Nat.le_refl _) (nle rfl) (nle rfl) dX7_term_38 hC30 ?_
          have h31 := hC30.1 X
          have o32 := h31.ok o27
          show S0 X _ q28.1 41 [some (.ref (gh (xG X) + a0)), some (.int p1), some (.int s10.2.1), some (.int s10.2.2)] [.int q28.2] _
          refine s_ifne (pc := 41) 46 dX7_term_41 rfl ?_ ?_
          · refine s_aload_n (pc := 46) 0 dX7_term_46 rfl rfl ?_
            refine s_geto (pc := 47) F_7 3 rfl o32 dX7_term_47 kf_X7_26 ?_
            refine s_rvB (fun r33 => ?_)
            refine s_iload_n (pc := 50) 2 dX7_term_50 rfl rfl ?_
            refine s_iconst (pc := 51) 0 dX7_term_51 kc_0 ?_
            refine s_grd (fun o34 => ?_)
            refine s_bind (fun q35 hq36 => ?_)
            have hC37 := t_X9_emit (l := xl X) (G := xG X) hq36
            refine s_callV (pc := 52) (As := [.int s10.2.1, .int 0]) (st := []) (nlt rfl) (q := (RX9, TX9, 5)) rfl rfl o34 cl_X9_emit wi_X9_emit wl_X9_emit km_X7_134 rfl rfl (Nat.le_trans (nle rfl : _ ≤ 3) (Nat.le_add_right 3 _)) (nle rfl) (nle rfl) dX7_term_52 hC37 ?_
            have h38 := hC37.1 X
            have o39 := h38.ok o32
            show S0 X _ q35.1 55 [some (.ref (gh (xG X) + a0)), some (.int p1), some (.int s10.2.1), some (.int s10.2.2)] [.int q35.2] _
            refine s_pop (pc := 55) dX7_term_55 rfl ?_
            refine s_aload_n (pc := 56) 0 dX7_term_56 rfl rfl ?_
            refine s_iconst (pc := 57) 5 dX7_term_57 kc_5 ?_
            refine s_bipush (pc := 58) 7 dX7_term_58 kb_7 ?_
            refine s_bind (fun q40 hq41 => ?_)
            have hC42 := t_X7_opOf (l := xl X) (G := xG X) hq41
            refine s_callV (pc := 60) (As := [.int 5, .int 7]) (st := []) (nlt rfl) (q := (RX7, TX7, 10)) rfl rfl o39 cl_X7_opOf wi_X7_opOf wl_X7_opOf km_X7_152 rfl rfl (Nat.le_trans (nle rfl : _ ≤ 3) (Nat.le_add_right 3 _)) (nle rfl) (nle rfl) dX7_term_60 hC42 ?_
            show S0 X _ q35.1 63 [some (.ref (gh (xG X) + a0)), some (.int p1), some (.int s10.2.1), some (.int s10.2.2)] [.int q40] _
            refine s_istore_n (pc := 63) 2 dX7_term_63 rfl (nlt rfl) rfl (L' := [some (.ref (gh (xG X) + a0)), some (.int p1), some (.int q40), some (.int s10.2.2)]) rfl ?_
            refine s_iinc (pc := 64) dX7_term_64 rfl (v := s10.2.2 + 1) (congrArg (fun z : Int32 => s10.2.2 + z) kc_1) (nlt rfl) rfl (L' := [some (.ref (gh (xG X) + a0)), some (.int p1), some (.int q40), some (.int (s10.2.2 + 1))]) rfl ?_
            refine s_bv (fun x43 : Int32 => [some (.ref (gh (xG X) + a0)), some (.int p1), some (.int q40), some (.int x43)]) (fun x43 => ?_) rfl
            refine s_goto (pc := 67) 20 dX7_term_67 rfl ?_
            exact s_drop (hT13 (q35.1, q40, x43) (hs11.tr (h26.tr (h31.tr h38)))) (And.intro rfl (And.intro rfl (And.intro rfl (And.intro rfl trivial))))
          · exact s_drop (hR17 q28.1 (hs11.tr (h26.tr h31))) trivial
  · refine s_iconst (pc := 8) 0 dX7_term_8 kc_0 ?_
    exact s_zret rfl rfl dX7_term_9
noncomputable def G_X7_inSquare : Nat → (Mem → Nat → Int32 → Option (Mem × Int32)) × (Mem → Nat → Int32 → Option (Mem × Int32)) × (Mem → Nat → Int32 → Option (Mem × Int32)) × (Mem → Nat → Int32 → Option (Mem × Int32))
  | 0 => ((fun _ _ _ => none), (fun _ _ _ => none), (fun _ _ _ => none), (fun _ _ _ => none))
  | d + 1 => (b_X7_inSquare ((G_X7_inSquare d).2.2.1), b_X7_part ((G_X7_inSquare d).1), b_X7_sum ((G_X7_inSquare d).2.2.2), b_X7_term ((G_X7_inSquare d).2.1))
noncomputable def f_X7_inSquare (d : Nat) : Mem → Nat → Int32 → Option (Mem × Int32) := (G_X7_inSquare d).1
noncomputable def f_X7_part (d : Nat) : Mem → Nat → Int32 → Option (Mem × Int32) := (G_X7_inSquare d).2.1
noncomputable def f_X7_sum (d : Nat) : Mem → Nat → Int32 → Option (Mem × Int32) := (G_X7_inSquare d).2.2.1
noncomputable def f_X7_term (d : Nat) : Mem → Nat → Int32 → Option (Mem × Int32) := (G_X7_inSquare d).2.2.2
set_option maxRecDepth 100000 in
theorem tg_X7_inSquare {l : Launch} {G : Gh} : ∀ d : Nat, (∀ (M : Mem) (a0 : Nat) (p1 : Int32) (q : Mem × Int32), f_X7_inSquare d M a0 p1 = some q → Ctr l G yX7_inSquare (Y_X7_inSquare d) M [.ref (gh G + a0), .int p1] q.1 (some (.int q.2))) ∧ (∀ (M : Mem) (a0 : Nat) (p1 : Int32) (q : Mem × Int32), f_X7_part d M a0 p1 = some q → Ctr l G yX7_part (Y_X7_part d) M [.ref (gh G + a0), .int p1] q.1 (some (.int q.2))) ∧ (∀ (M : Mem) (a0 : Nat) (p1 : Int32) (q : Mem × Int32), f_X7_sum d M a0 p1 = some q → Ctr l G yX7_sum (Y_X7_sum d) M [.ref (gh G + a0), .int p1] q.1 (some (.int q.2))) ∧ (∀ (M : Mem) (a0 : Nat) (p1 : Int32) (q : Mem × Int32), f_X7_term d M a0 p1 = some q → Ctr l G yX7_term (Y_X7_term d) M [.ref (gh G + a0), .int p1] q.1 (some (.int q.2))) := by
  intro d
  induction d with
  | zero => refine ⟨?_, ?_, ?_, ?_⟩ <;> (intros; rename_i h; cases h)
  | succ d ih =>
    obtain ⟨h0, h1, h2, h3⟩ := ih
    refine ⟨?_, ?_, ?_, ?_⟩
    · intro M a0 p1 q h
      exact t_X7_inSquare (fun X hG hl => by subst hG; subst hl; exact h2) h
    · intro M a0 p1 q h
      exact t_X7_part (fun X hG hl => by subst hG; subst hl; exact h0) h
    · intro M a0 p1 q h
      exact t_X7_sum (fun X hG hl => by subst hG; subst hl; exact h3) h
    · intro M a0 p1 q h
      exact t_X7_term (fun X hG hl => by subst hG; subst hl; exact h1) h
set_option maxRecDepth 100000 in
theorem tf_X7_inSquare {l : Launch} {G : Gh} {M : Mem} {a0 : Nat} {p1 : Int32} {q : Mem × Int32} (h : f_X7_inSquare 100 M a0 p1 = some q) : Ctr l G yX7_inSquare (Y_X7_inSquare 100) M [.ref (gh G + a0), .int p1] q.1 (some (.int q.2)) := (tg_X7_inSquare 100).1 _ _ _ _ h
set_option maxRecDepth 100000 in
theorem tf_X7_part {l : Launch} {G : Gh} {M : Mem} {a0 : Nat} {p1 : Int32} {q : Mem × Int32} (h : f_X7_part 100 M a0 p1 = some q) : Ctr l G yX7_part (Y_X7_part 100) M [.ref (gh G + a0), .int p1] q.1 (some (.int q.2)) := (tg_X7_inSquare 100).2.1 _ _ _ _ h
set_option maxRecDepth 100000 in
theorem tf_X7_sum {l : Launch} {G : Gh} {M : Mem} {a0 : Nat} {p1 : Int32} {q : Mem × Int32} (h : f_X7_sum 100 M a0 p1 = some q) : Ctr l G yX7_sum (Y_X7_sum 100) M [.ref (gh G + a0), .int p1] q.1 (some (.int q.2)) := (tg_X7_inSquare 100).2.2.1 _ _ _ _ h
set_option maxRecDepth 100000 in
theorem tf_X7_term {l : Launch} {G : Gh} {M : Mem} {a0 : Nat} {p1 : Int32} {q : Mem × Int32} (h : f_X7_term 100 M a0 p1 = some q) : Ctr l G yX7_term (Y_X7_term 100) M [.ref (gh G + a0), .int p1] q.1 (some (.int q.2)) := (tg_X7_inSquare 100).2.2.2 _ _ _ _ h
set_option maxRecDepth 100000 in
set_option maxHeartbeats 8000000 in
noncomputable def f_X8_askLaw (M : Mem) (a0 : Nat) : Option (Mem × Int32) :=
  Option.bind (loopO (σ := Mem × Int32 × Int32) (ρ := (Mem × Int32) ⊕ Mem) (fun s1 => grd (okO s1.1 8 a0) (Option.bind (mR s1.1 a0 3) (fun r14 => grd (okO s1.1 9 r14) (if (mI s1.1 r14 2) ≤ s1.2.2 then (some (.inr (.inl (s1.1, s1.2.1)))) else (Option.bind (mR s1.1 a0 3) (fun r16 => grd (okO s1.1 9 r16) (Option.bind (f_X9_told s1.1 r16 s1.2.2 2) (fun q18 => bv (fun (s22 : Mem × Int32) => bv (s1.2.2 + 1 : Int32) (fun x26 => some (.inl (s22.1, s22.2, x26)))) (fun j21 => bv (fun (s28 : Mem) => Option.bind (mR s28 a0 3) (fun r32 => grd (okO s28 9 r32) (Option.bind (f_X9_told s28 r32 s1.2.2 0) (fun q34 => if q34 = 0 then (Option.bind (mR s28 a0 1) (fun r37 => Option.bind (mR s28 a0 3) (fun r38 => grd (okO s28 9 r38) (Option.bind (mR s28 r38 1) (fun r40 => Option.bind (mR s28 a0 3) (fun r41 => grd (okO s28 9 r41) (Option.bind (f_X9_told s28 r41 s1.2.2 3) (fun q43 => grd (okO s28 3 r37) (Option.bind (f_X3_run s28 r37 r40 q43) (fun q47 => if (lg_cmp q47.2 (-4611686018427387904)) = 0 then (j21 (q47.1, s1.2.1)) else (bv ((lmax 0 (lmin 99 q47.2)).toInt32 : Int32) (fun x52 => j21 (q47.1, x52))))))))))))) else (some (.inr (.inr s28))))))) (fun j27 => if q18 = (-1) then (j27 s1.1) else (Option.bind (mR s1.1 a0 1) (fun r53 => Option.bind (mR s1.1 a0 3) (fun r54 => grd (okO s1.1 9 r54) (Option.bind (mR s1.1 r54 1) (fun r56 => grd (okO s1.1 3 r53) (Option.bind (f_X3_run s1.1 r53 r56 q18) (fun q58 => if (lg_cmp q58.2 1) = 0 then (j27 q58.1) else (j21 (q58.1, s1.2.1))))))))))))))))))) (M, 1, 0)) (Sum.elim (fun (x9 : Mem × Int32) => some (x9.1, x9.2)) (fun (x11 : Mem) => some (x11, (-1))))
abbrev Y_X8_askLaw : Sta := (RX8, "askLaw", cX8_askLaw, 6, (some .int), 3)
set_option maxRecDepth 100000 in
set_option maxHeartbeats 8000000 in
theorem t_X8_askLaw {l : Launch} {G : Gh} {M : Mem} {a0 : Nat} {q : Mem × Int32} (h : f_X8_askLaw M a0 = some q) : Ctr l G yX8_askLaw Y_X8_askLaw M [.ref (gh G + a0)] q.1 (some (.int q.2)) := by
  refine Ctr.of (Y := Y_X8_askLaw) (L := [some (.ref (gh G + a0)), none, none, none, none, none]) (t := Option.bind (f_X8_askLaw M a0) (fun q => some (q.1, some (.int q.2)))) (by decide) rfl rfl (nle rfl) (Lof_in 5 _ rfl) (fun X hG hl => ?_) (by rw [h]; rfl)
  subst hG
  subst hl
  unfold f_X8_askLaw
  refine s_iconst (pc := 0) 1 dX8_askLaw_0 kc_1 ?_
  refine s_istore_n (pc := 1) 1 dX8_askLaw_1 rfl (nlt rfl) rfl (L' := [some (.ref (gh (xG X) + a0)), some (.int 1), none, none, none, none]) rfl ?_
  refine s_iconst (pc := 2) 0 dX8_askLaw_2 kc_0 ?_
  refine s_istore_n (pc := 3) 2 dX8_askLaw_3 rfl (nlt rfl) rfl (L' := [some (.ref (gh (xG X) + a0)), some (.int 1), some (.int 0), none, none, none]) rfl ?_
  refine s_drop (L' := [some (.ref (gh (xG X) + a0)), some (.int 1), some (.int 0), none, none, none]) ?_ (And.intro rfl (And.intro rfl (And.intro rfl trivial)))
  refine s_loop2 M (fun s1 : Mem × Int32 × Int32 => s1.1) (fun s1 : Mem × Int32 × Int32 => [some (.ref (gh (xG X) + a0)), some (.int s1.2.1), some (.int s1.2.2), none, none, none]) (fun x9 : Mem × Int32 => x9.1) 121 (fun x9 : Mem × Int32 => [none, some (.int x9.2), none, none, none, none]) (fun x11 : Mem => x11) 65 (fun x11 : Mem => [none, none, none, none, none, none]) (fun x9 hx10 => ?_) (fun x11 hx12 => ?_) (fun T3 R5 R7 hT4 hR6 hR8 s1 hs2 => ?_) (M, 1, 0) Le.rf
  · show S0 X _ x9.1 121 [none, some (.int x9.2), none, none, none, none] [] _
    refine s_iload_n (pc := 121) 1 dX8_askLaw_121 rfl rfl ?_
    exact s_iret rfl dX8_askLaw_122
  · show S0 X _ x11 65 [none, none, none, none, none, none] [] _
    refine s_iconst (pc := 65) (-1) dX8_askLaw_65 kc_m1 ?_
    exact s_iret rfl dX8_askLaw_66
  · show S0 X _ s1.1 4 [some (.ref (gh (xG X) + a0)), some (.int s1.2.1), some (.int s1.2.2), none, none, none] [] _
    refine s_iload_n (pc := 4) 2 dX8_askLaw_4 rfl rfl ?_
    refine s_aload_n (pc := 5) 0 dX8_askLaw_5 rfl rfl ?_
    refine s_grd (fun o13 => ?_)
    refine s_geto (pc := 6) F_8 3 rfl o13 dX8_askLaw_6 kf_X8_30 ?_
    refine s_rvB (fun r14 => ?_)
    refine s_grd (fun o15 => ?_)
    refine s_geti (pc := 9) F_9 2 rfl o15 dX8_askLaw_9 kf_X8_69 ?_
    refine s_icge (pc := 12) 121 dX8_askLaw_12 rfl ?_ ?_
    · exact s_drop (hR6 (s1.1, s1.2.1) hs2) (And.intro rfl trivial)
    · refine s_aload_n (pc := 15) 0 dX8_askLaw_15 rfl rfl ?_
      refine s_geto (pc := 16) F_8 3 rfl o13 dX8_askLaw_16 kf_X8_30 ?_
      refine s_rvB (fun r16 => ?_)
      refine s_iload_n (pc := 19) 2 dX8_askLaw_19 rfl rfl ?_
      refine s_iconst (pc := 20) 2 dX8_askLaw_20 kc_2 ?_
      refine s_grd (fun o17 => ?_)
      refine s_bind (fun q18 hq19 => ?_)
      have hC20 := t_X9_told (l := xl X) (G := xG X) hq19
      refine s_callV (pc := 21) (As := [.int s1.2.2, .int 2]) (st := []) (nlt rfl) (q := (RX9, TX9, 5)) rfl rfl o17 cl_X9_told wi_X9_told wl_X9_told km_X8_72 rfl rfl (nle rfl) (nle rfl) (nle rfl) dX8_askLaw_21 hC20 ?_
      show S0 X _ s1.1 24 [some (.ref (gh (xG X) + a0)), some (.int s1.2.1), some (.int s1.2.2), none, none, none] [.int q18] _
      refine s_istore_n (pc := 24) 3 dX8_askLaw_24 rfl (nlt rfl) rfl (L' := [some (.ref (gh (xG X) + a0)), some (.int s1.2.1), some (.int s1.2.2), some (.int q18), none, none]) rfl ?_
      refine s_iload_n (pc := 25) 3 dX8_askLaw_25 rfl rfl ?_
      refine s_iconst (pc := 26) (-1) dX8_askLaw_26 kc_m1 ?_
      refine s_join s1.1 (fun s22 : Mem × Int32 => s22.1) 115 (fun s22 : Mem × Int32 => [some (.ref (gh (xG X) + a0)), some (.int s22.2), some (.int s1.2.2), none, none, none]) (fun s22 : Mem × Int32 => []) (fun s22 hs23 => ?_) (fun j21 hj24 => ?_)
      · show S0 X _ s22.1 115 [some (.ref (gh (xG X) + a0)), some (.int s22.2), some (.int s1.2.2), none, none, none] [] _
        have o25 := hs23.ok o13
        refine s_iinc (pc := 115) dX8_askLaw_115 rfl (v := s1.2.2 + 1) (congrArg (fun z : Int32 => s1.2.2 + z) kc_1) (nlt rfl) rfl (L' := [some (.ref (gh (xG X) + a0)), some (.int s22.2), some (.int (s1.2.2 + 1)), none, none, none]) rfl ?_
        refine s_bv (fun x26 : Int32 => [some (.ref (gh (xG X) + a0)), some (.int s22.2), some (.int x26), none, none, none]) (fun x26 => ?_) rfl
        refine s_goto (pc := 118) 4 dX8_askLaw_118 rfl ?_
        exact s_drop (hT4 (s22.1, s22.2, x26) (hs2.tr hs23)) (And.intro rfl (And.intro rfl (And.intro rfl trivial)))
      · refine s_join s1.1 (fun s28 : Mem => s28) 53 (fun s28 : Mem => [some (.ref (gh (xG X) + a0)), some (.int s1.2.1), some (.int s1.2.2), none, none, none]) (fun s28 : Mem => []) (fun s28 hs29 => ?_) (fun j27 hj30 => ?_)
        · show S0 X _ s28 53 [some (.ref (gh (xG X) + a0)), some (.int s1.2.1), some (.int s1.2.2), none, none, none] [] _
          have o31 := hs29.ok o13
          refine s_aload_n (pc := 53) 0 dX8_askLaw_53 rfl rfl ?_
          refine s_geto (pc := 54) F_8 3 rfl o31 dX8_askLaw_54 kf_X8_30 ?_
          refine s_rvB (fun r32 => ?_)
          refine s_iload_n (pc := 57) 2 dX8_askLaw_57 rfl rfl ?_
          refine s_iconst (pc := 58) 0 dX8_askLaw_58 kc_0 ?_
          refine s_grd (fun o33 => ?_)
          refine s_bind (fun q34 hq35 => ?_)
          have hC36 := t_X9_told (l := xl X) (G := xG X) hq35
          refine s_callV (pc := 59) (As := [.int s1.2.2, .int 0]) (st := []) (nlt rfl) (q := (RX9, TX9, 5)) rfl rfl o33 cl_X9_told wi_X9_told wl_X9_told km_X8_72 rfl rfl (nle rfl) (nle rfl) (nle rfl) dX8_askLaw_59 hC36 ?_
          show S0 X _ s28 62 [some (.ref (gh (xG X) + a0)), some (.int s1.2.1), some (.int s1.2.2), none, none, none] [.int q34] _
          refine s_ifeq (pc := 62) 67 dX8_askLaw_62 rfl ?_ ?_
          · refine s_aload_n (pc := 67) 0 dX8_askLaw_67 rfl rfl ?_
            refine s_geto (pc := 68) F_8 1 rfl o31 dX8_askLaw_68 kf_X8_12 ?_
            refine s_rvB (fun r37 => ?_)
            refine s_aload_n (pc := 71) 0 dX8_askLaw_71 rfl rfl ?_
            refine s_geto (pc := 72) F_8 3 rfl o31 dX8_askLaw_72 kf_X8_30 ?_
            refine s_rvB (fun r38 => ?_)
            refine s_grd (fun o39 => ?_)
            refine s_geto (pc := 75) F_9 1 rfl o39 dX8_askLaw_75 kf_X8_76 ?_
            refine s_rvB (fun r40 => ?_)
            refine s_aload_n (pc := 78) 0 dX8_askLaw_78 rfl rfl ?_
            refine s_geto (pc := 79) F_8 3 rfl o31 dX8_askLaw_79 kf_X8_30 ?_
            refine s_rvB (fun r41 => ?_)
            refine s_iload_n (pc := 82) 2 dX8_askLaw_82 rfl rfl ?_
            refine s_iconst (pc := 83) 3 dX8_askLaw_83 kc_3 ?_
            refine s_grd (fun o42 => ?_)
            refine s_bind (fun q43 hq44 => ?_)
            have hC45 := t_X9_told (l := xl X) (G := xG X) hq44
            refine s_callV (pc := 84) (As := [.int s1.2.2, .int 3]) (st := [.ref (gh (xG X) + r40), .ref (gh (xG X) + r37)]) (nlt rfl) (q := (RX9, TX9, 5)) rfl rfl o42 cl_X9_told wi_X9_told wl_X9_told km_X8_72 rfl rfl (nle rfl) (nle rfl) (nle rfl) dX8_askLaw_84 hC45 ?_
            show S0 X _ s28 87 [some (.ref (gh (xG X) + a0)), some (.int s1.2.1), some (.int s1.2.2), none, none, none] [.int q43, .ref (gh (xG X) + r40), .ref (gh (xG X) + r37)] _
            refine s_grd (fun o46 => ?_)
            refine s_bind (fun q47 hq48 => ?_)
            have hC49 := t_X3_run (l := xl X) (G := xG X) hq48
            refine s_callV (pc := 87) (As := [.ref (gh (xG X) + r40), .int q43]) (st := []) (nlt rfl) (q := (RX3, TX3, 2)) rfl rfl o46 cl_X3_run wi_X3_run wl_X3_run km_X8_79 rfl rfl (nle rfl) (nle rfl) (nle rfl) dX8_askLaw_87 hC49 ?_
            have h50 := hC49.1 X
            have o51 := h50.ok o31
            show S0 X _ q47.1 90 [some (.ref (gh (xG X) + a0)), some (.int s1.2.1), some (.int s1.2.2), none, none, none] [.long q47.2] _
            refine s_lstore (pc := 90) dX8_askLaw_90 (nlt rfl) rfl (L' := [some (.ref (gh (xG X) + a0)), some (.int s1.2.1), some (.int s1.2.2), none, some (.long q47.2), none]) rfl ?_
            refine s_lload (pc := 92) dX8_askLaw_92 rfl ?_
            refine s_ldc2 (pc := 94) dX8_askLaw_94 kl_X8_83 ?_
            refine s_lcmp (pc := 97) dX8_askLaw_97 ?_
            refine s_ifeq (pc := 98) 115 dX8_askLaw_98 rfl ?_ ?_
            · exact s_drop (hj24 (q47.1, s1.2.1) (hs29.tr h50)) (And.intro rfl (And.intro rfl (And.intro rfl trivial)))
            · refine s_lconst (pc := 101) 0 dX8_askLaw_101 kl_0 ?_
              refine s_ldc2 (pc := 102) dX8_askLaw_102 kl_X8_85 ?_
              refine s_lload (pc := 105) dX8_askLaw_105 rfl ?_
              refine s_lmin (pc := 107) km_X8_87 wt_J9_min_f86c9 wn_J9 wc_lmin (nle rfl) (nle rfl) dX8_askLaw_107 ?_
              refine s_lmax (pc := 110) km_X8_93 wt_J9_max_f86c9 wn_J9 wc_lmax (nle rfl) (nle rfl) dX8_askLaw_110 ?_
              refine s_l2i (pc := 113) dX8_askLaw_113 ?_
              refine s_istore_n (pc := 114) 1 dX8_askLaw_114 rfl (nlt rfl) rfl (L' := [some (.ref (gh (xG X) + a0)), some (.int ((lmax 0 (lmin 99 q47.2)).toInt32)), some (.int s1.2.2), none, some (.long q47.2), none]) rfl ?_
              refine s_bv (fun x52 : Int32 => [some (.ref (gh (xG X) + a0)), some (.int x52), some (.int s1.2.2), none, some (.long q47.2), none]) (fun x52 => ?_) rfl
              exact s_drop (hj24 (q47.1, x52) (hs29.tr h50)) (And.intro rfl (And.intro rfl (And.intro rfl trivial)))
          · exact s_drop (hR8 s28 (hs2.tr hs29)) trivial
        · refine s_iceq (pc := 27) 53 dX8_askLaw_27 rfl ?_ ?_
          · exact s_drop (hj30 s1.1 Le.rf) (And.intro rfl (And.intro rfl (And.intro rfl trivial)))
          · refine s_aload_n (pc := 30) 0 dX8_askLaw_30 rfl rfl ?_
            refine s_geto (pc := 31) F_8 1 rfl o13 dX8_askLaw_31 kf_X8_12 ?_
            refine s_rvB (fun r53 => ?_)
            refine s_aload_n (pc := 34) 0 dX8_askLaw_34 rfl rfl ?_
            refine s_geto (pc := 35) F_8 3 rfl o13 dX8_askLaw_35 kf_X8_30 ?_
            refine s_rvB (fun r54 => ?_)
            refine s_grd (fun o55 => ?_)
            refine s_geto (pc := 38) F_9 1 rfl o55 dX8_askLaw_38 kf_X8_76 ?_
            refine s_rvB (fun r56 => ?_)
            refine s_iload_n (pc := 41) 3 dX8_askLaw_41 rfl rfl ?_
            refine s_grd (fun o57 => ?_)
            refine s_bind (fun q58 hq59 => ?_)
            have hC60 := t_X3_run (l := xl X) (G := xG X) hq59
            refine s_callV (pc := 42) (As := [.ref (gh (xG X) + r56), .int q18]) (st := []) (nlt rfl) (q := (RX3, TX3, 2)) rfl rfl o57 cl_X3_run wi_X3_run wl_X3_run km_X8_79 rfl rfl (nle rfl) (nle rfl) (nle rfl) dX8_askLaw_42 hC60 ?_
            have h61 := hC60.1 X
            have o62 := h61.ok o13
            show S0 X _ q58.1 45 [some (.ref (gh (xG X) + a0)), some (.int s1.2.1), some (.int s1.2.2), some (.int q18), none, none] [.long q58.2] _
            refine s_lconst (pc := 45) 1 dX8_askLaw_45 kl_1 ?_
            refine s_lcmp (pc := 46) dX8_askLaw_46 ?_
            refine s_ifeq (pc := 47) 53 dX8_askLaw_47 rfl ?_ ?_
            · exact s_drop (hj30 q58.1 h61) (And.intro rfl (And.intro rfl (And.intro rfl trivial)))
            · refine s_goto (pc := 50) 115 dX8_askLaw_50 rfl ?_
              exact s_drop (hj24 (q58.1, s1.2.1) h61) (And.intro rfl (And.intro rfl (And.intro rfl trivial)))
set_option maxRecDepth 100000 in
set_option maxHeartbeats 8000000 in
noncomputable def f_X11_house (M : Mem) (a0 : Nat) (p1 : Int32) (p2 : Int32) (p3 : Int32) : Option (Mem × Int32) :=
  Option.bind (f_X6_rankOf p3) (fun q1 => Option.bind (f_X11_isYear p2) (fun q4 => bv (fun (s8 : Unit) => grd (okO M 11 a0) (Option.bind (f_X11_refuse M a0 (-1)) (fun q12 => some (q12.1, q12.2)))) (fun j7 => if q4 = 0 then (j7 ()) else (if q1 = (-1) then (j7 ()) else (bv (fun (s18 : Unit) => bv (fun (s22 : Unit) => grd (okO M 11 a0) (Option.bind (mR M a0 0) (fun r26 => grd (okO M 10 r26) (Option.bind (f_X10_add M r26 p1 p2 q1) (fun q28 => Option.bind (f_X11_settle q28.1 a0 q28.2) (fun q33 => some (q33.1, q33.2))))))) (fun j21 => if p1 = (-1) then (j21 ()) else (grd (okO M 11 a0) (Option.bind (mR M a0 0) (fun r39 => grd (okO M 10 r39) (Option.bind (mR M r39 4) (fun r41 => grd (okO M 14 r41) (grd (vp_in p1 (mL M r41)) (if (mI M r41 p1.toNatClampNeg) ≤ p2 then (j21 ()) else (Option.bind (f_X11_refuse M a0 (-3)) (fun q44 => some (q44.1, q44.2)))))))))))) (fun j17 => if p1 = (-1) then (j17 ()) else (grd (okO M 11 a0) (Option.bind (mR M a0 0) (fun r50 => grd (okO M 10 r50) (Option.bind (f_X10_hasHouse M r50 p1) (fun q52 => if q52 = 0 then (Option.bind (f_X11_refuse M a0 (-2)) (fun q55 => some (q55.1, q55.2))) else (j17 ()))))))))))))
abbrev Y_X11_house : Sta := (RX11, "house", cX11_house, 5, (some .int), 4)
set_option maxRecDepth 100000 in
set_option maxHeartbeats 8000000 in
theorem t_X11_house {l : Launch} {G : Gh} {M : Mem} {a0 : Nat} {p1 : Int32} {p2 : Int32} {p3 : Int32} {q : Mem × Int32} (h : f_X11_house M a0 p1 p2 p3 = some q) : Ctr l G yX11_house Y_X11_house M [.ref (gh G + a0), .int p1, .int p2, .int p3] q.1 (some (.int q.2)) := by
  refine Ctr.of (Y := Y_X11_house) (L := [some (.ref (gh G + a0)), some (.int p1), some (.int p2), some (.int p3), none]) (t := Option.bind (f_X11_house M a0 p1 p2 p3) (fun q => some (q.1, some (.int q.2)))) (by decide) rfl rfl (nle rfl) (Lof_in 1 _ rfl) (fun X hG hl => ?_) (by rw [h]; rfl)
  subst hG
  subst hl
  unfold f_X11_house
  refine s_iload_n (pc := 0) 3 dX11_house_0 rfl rfl ?_
  refine s_bind (fun q1 hq2 => ?_)
  have hC3 := t_X6_rankOf (l := xl X) (G := xG X) (M := M) hq2
  refine s_callS (pc := 1) (As := [.int p3]) (st := []) cl_X6_rankOf wt_X6_rankOf km_X11_111 rfl rfl (nle rfl) (nle rfl) (nle rfl) dX11_house_1 hC3 ?_
  show S0 X _ M 4 [some (.ref (gh (xG X) + a0)), some (.int p1), some (.int p2), some (.int p3), none] [.int q1] _
  refine s_istore (pc := 4) dX11_house_4 (nlt rfl) rfl (L' := [some (.ref (gh (xG X) + a0)), some (.int p1), some (.int p2), some (.int p3), some (.int q1)]) rfl ?_
  refine s_iload_n (pc := 6) 2 dX11_house_6 rfl rfl ?_
  refine s_bind (fun q4 hq5 => ?_)
  have hC6 := t_X11_isYear (l := xl X) (G := xG X) (M := M) hq5
  refine s_callS (pc := 7) (As := [.int p2]) (st := []) cl_X11_isYear wt_X11_isYear km_X11_116 rfl rfl (nle rfl) (nle rfl) (nle rfl) dX11_house_7 hC6 ?_
  show S0 X _ M 10 [some (.ref (gh (xG X) + a0)), some (.int p1), some (.int p2), some (.int p3), some (.int q1)] [.int q4] _
  refine s_join M (fun s8 : Unit => M) 19 (fun s8 : Unit => [some (.ref (gh (xG X) + a0)), none, none, none, none]) (fun s8 : Unit => []) (fun s8 hs9 => ?_) (fun j7 hj10 => ?_)
  · show S0 X _ M 19 [some (.ref (gh (xG X) + a0)), none, none, none, none] [] _
    refine s_aload_n (pc := 19) 0 dX11_house_19 rfl rfl ?_
    refine s_iconst (pc := 20) (-1) dX11_house_20 kc_m1 ?_
    refine s_grd (fun o11 => ?_)
    refine s_bind (fun q12 hq13 => ?_)
    have hC14 := t_X11_refuse (l := xl X) (G := xG X) hq13
    refine s_callV (pc := 21) (As := [.int (-1)]) (st := []) (nlt rfl) (q := (RX11, TX11, 16)) rfl rfl o11 cl_X11_refuse wi_X11_refuse wl_X11_refuse km_X11_97 rfl rfl (nle rfl) (nle rfl) (nle rfl) dX11_house_21 hC14 ?_
    have h15 := hC14.1 X
    have o16 := h15.ok o11
    show S0 X _ q12.1 24 [some (.ref (gh (xG X) + a0)), none, none, none, none] [.int q12.2] _
    exact s_iret rfl dX11_house_24
  · refine s_ifeq (pc := 10) 19 dX11_house_10 rfl ?_ ?_
    · exact s_drop (hj10 () Le.rf) (And.intro rfl trivial)
    · refine s_iload (pc := 13) dX11_house_13 rfl ?_
      refine s_iconst (pc := 15) (-1) dX11_house_15 kc_m1 ?_
      refine s_icne (pc := 16) 25 dX11_house_16 rfl ?_ ?_
      · refine s_iload_n (pc := 25) 1 dX11_house_25 rfl rfl ?_
        refine s_iconst (pc := 26) (-1) dX11_house_26 kc_m1 ?_
        refine s_join M (fun s18 : Unit => M) 48 (fun s18 : Unit => [some (.ref (gh (xG X) + a0)), some (.int p1), some (.int p2), none, some (.int q1)]) (fun s18 : Unit => []) (fun s18 hs19 => ?_) (fun j17 hj20 => ?_)
        · show S0 X _ M 48 [some (.ref (gh (xG X) + a0)), some (.int p1), some (.int p2), none, some (.int q1)] [] _
          refine s_iload_n (pc := 48) 1 dX11_house_48 rfl rfl ?_
          refine s_iconst (pc := 49) (-1) dX11_house_49 kc_m1 ?_
          refine s_join M (fun s22 : Unit => M) 73 (fun s22 : Unit => [some (.ref (gh (xG X) + a0)), some (.int p1), some (.int p2), none, some (.int q1)]) (fun s22 : Unit => []) (fun s22 hs23 => ?_) (fun j21 hj24 => ?_)
          · show S0 X _ M 73 [some (.ref (gh (xG X) + a0)), some (.int p1), some (.int p2), none, some (.int q1)] [] _
            refine s_aload_n (pc := 73) 0 dX11_house_73 rfl rfl ?_
            refine s_aload_n (pc := 74) 0 dX11_house_74 rfl rfl ?_
            refine s_grd (fun o25 => ?_)
            refine s_geto (pc := 75) F_11 0 rfl o25 dX11_house_75 kf_X11_10 ?_
            refine s_rvB (fun r26 => ?_)
            refine s_iload_n (pc := 78) 1 dX11_house_78 rfl rfl ?_
            refine s_iload_n (pc := 79) 2 dX11_house_79 rfl rfl ?_
            refine s_iload (pc := 80) dX11_house_80 rfl ?_
            refine s_grd (fun o27 => ?_)
            refine s_bind (fun q28 hq29 => ?_)
            have hC30 := t_X10_add (l := xl X) (G := xG X) hq29
            refine s_callV (pc := 82) (As := [.int p1, .int p2, .int q1]) (st := [.ref (gh (xG X) + a0)]) (nlt rfl) (q := (RX10, TX10, 15)) rfl rfl o27 cl_X10_add wi_X10_add wl_X10_add km_X11_125 rfl rfl (nle rfl) (nle rfl) (nle rfl) dX11_house_82 hC30 ?_
            have h31 := hC30.1 X
            have o32 := h31.ok o25
            show S0 X _ q28.1 85 [some (.ref (gh (xG X) + a0)), some (.int p1), some (.int p2), none, some (.int q1)] [.int q28.2, .ref (gh (xG X) + a0)] _
            refine s_bind (fun q33 hq34 => ?_)
            have hC35 := t_X11_settle (l := xl X) (G := xG X) hq34
            refine s_callV (pc := 85) (As := [.int q28.2]) (st := []) (nlt rfl) (q := (RX11, TX11, 16)) rfl rfl o32 cl_X11_settle wi_X11_settle wl_X11_settle km_X11_129 rfl rfl (nle rfl) (nle rfl) (nle rfl) dX11_house_85 hC35 ?_
            have h36 := hC35.1 X
            have o37 := h36.ok o32
            show S0 X _ q33.1 88 [some (.ref (gh (xG X) + a0)), some (.int p1), some (.int p2), none, some (.int q1)] [.int q33.2] _
            exact s_iret rfl dX11_house_88
          · refine s_iceq (pc := 50) 73 dX11_house_50 rfl ?_ ?_
            · exact s_drop (hj24 () Le.rf) (And.intro rfl (And.intro rfl (And.intro rfl (And.intro rfl trivial))))
            · refine s_iload_n (pc := 53) 2 dX11_house_53 rfl rfl ?_
              refine s_aload_n (pc := 54) 0 dX11_house_54 rfl rfl ?_
              refine s_grd (fun o38 => ?_)
              refine s_geto (pc := 55) F_11 0 rfl o38 dX11_house_55 kf_X11_10 ?_
              refine s_rvB (fun r39 => ?_)
              refine s_grd (fun o40 => ?_)
              refine s_getoN (pc := 58) F_10 4 rfl o40 dX11_house_58 (List.mem_of_getElem? (i := 5) rfl) ?_
              refine s_rvB (fun r41 => ?_)
              refine s_iload_n (pc := 61) 1 dX11_house_61 rfl rfl ?_
              refine s_grd (fun o42 => ?_)
              refine s_grd (fun i43 => ?_)
              refine s_iald (pc := 62) o42 i43 dX11_house_62 ?_
              refine s_icge (pc := 63) 73 dX11_house_63 rfl ?_ ?_
              · exact s_drop (hj24 () Le.rf) (And.intro rfl (And.intro rfl (And.intro rfl (And.intro rfl trivial))))
              · refine s_aload_n (pc := 66) 0 dX11_house_66 rfl rfl ?_
                refine s_bipush (pc := 67) (-3) dX11_house_67 kb_m3 ?_
                refine s_bind (fun q44 hq45 => ?_)
                have hC46 := t_X11_refuse (l := xl X) (G := xG X) hq45
                refine s_callV (pc := 69) (As := [.int (-3)]) (st := []) (nlt rfl) (q := (RX11, TX11, 16)) rfl rfl o38 cl_X11_refuse wi_X11_refuse wl_X11_refuse km_X11_97 rfl rfl (nle rfl) (nle rfl) (nle rfl) dX11_house_69 hC46 ?_
                have h47 := hC46.1 X
                have o48 := h47.ok o38
                show S0 X _ q44.1 72 [some (.ref (gh (xG X) + a0)), some (.int p1), some (.int p2), none, some (.int q1)] [.int q44.2] _
                exact s_iret rfl dX11_house_72
        · refine s_iceq (pc := 27) 48 dX11_house_27 rfl ?_ ?_
          · exact s_drop (hj20 () Le.rf) (And.intro rfl (And.intro rfl (And.intro rfl (And.intro rfl trivial))))
          · refine s_aload_n (pc := 30) 0 dX11_house_30 rfl rfl ?_
            refine s_grd (fun o49 => ?_)
            refine s_geto (pc := 31) F_11 0 rfl o49 dX11_house_31 kf_X11_10 ?_
            refine s_rvB (fun r50 => ?_)
            refine s_iload_n (pc := 34) 1 dX11_house_34 rfl rfl ?_
            refine s_grd (fun o51 => ?_)
            refine s_bind (fun q52 hq53 => ?_)
            have hC54 := t_X10_hasHouse (l := xl X) (G := xG X) hq53
            refine s_callV (pc := 35) (As := [.int p1]) (st := []) (nlt rfl) (q := (RX10, TX10, 15)) rfl rfl o51 cl_X10_hasHouse wi_X10_hasHouse wl_X10_hasHouse km_X11_119 rfl rfl (nle rfl) (nle rfl) (nle rfl) dX11_house_35 hC54 ?_
            show S0 X _ M 38 [some (.ref (gh (xG X) + a0)), some (.int p1), some (.int p2), some (.int p3), some (.int q1)] [.int q52] _
            refine s_ifne (pc := 38) 48 dX11_house_38 rfl ?_ ?_
            · exact s_drop (hj20 () Le.rf) (And.intro rfl (And.intro rfl (And.intro rfl (And.intro rfl trivial))))
            · refine s_aload_n (pc := 41) 0 dX11_house_41 rfl rfl ?_
              refine s_bipush (pc := 42) (-2) dX11_house_42 kb_m2 ?_
              refine s_bind (fun q55 hq56 => ?_)
              have hC57 := t_X11_refuse (l := xl X) (G := xG X) hq56
              refine s_callV (pc := 44) (As := [.int (-2)]) (st := []) (nlt rfl) (q := (RX11, TX11, 16)) rfl rfl o49 cl_X11_refuse wi_X11_refuse wl_X11_refuse km_X11_97 rfl rfl (nle rfl) (nle rfl) (nle rfl) dX11_house_44 hC57 ?_
              have h58 := hC57.1 X
              have o59 := h58.ok o49
              show S0 X _ q55.1 47 [some (.ref (gh (xG X) + a0)), some (.int p1), some (.int p2), some (.int p3), some (.int q1)] [.int q55.2] _
              exact s_iret rfl dX11_house_47
      · exact s_drop (hj10 () Le.rf) (And.intro rfl trivial)
