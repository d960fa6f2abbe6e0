set_option maxRecDepth 100000 in
set_option maxHeartbeats 8000000 in
noncomputable def f_X6_without (M : Mem) (a0 : Nat) (p1 : Int32) : Option Int32 :=
  grd (okO M 6 a0) (Option.bind (f_X6_hasPlace M a0 p1) (fun q2 => if q2 = 0 then (some (-1)) else (grd (vp_in (((mI M a0 2) - 1) - p1) 6) (bv (pwV (((mI M a0 2) - 1) - p1).toNatClampNeg : Int32) (fun x6 => grd (vp_in ((mI M a0 2) - 1) 7) (grd (¬ (x6 * 6) = 0) (grd (¬ x6 = 0) (some (((stV ((mI M a0 2) - 1).toNatClampNeg) + (((mI M a0 3) / (x6 * 6)) * x6)) + (ir (mI M a0 3) x6))))))))))
abbrev Y_X6_without : Sta := (RX6, "without", cX6_without, 3, (some .int), 2)
set_option maxRecDepth 100000 in
set_option maxHeartbeats 8000000 in
theorem t_X6_without {l : Launch} {G : Gh} {M : Mem} {a0 : Nat} {p1 : Int32} {q : Int32} (h : f_X6_without M a0 p1 = some q) : Ctr l G yX6_without Y_X6_without M [.ref (gh G + a0), .int p1] M (some (.int q)) := by
  refine Ctr.of (Y := Y_X6_without) (L := [some (.ref (gh G + a0)), some (.int p1), none]) (t := Option.bind (f_X6_without M a0 p1) (fun q => some (M, some (.int q)))) (by decide) rfl rfl (nle rfl) (Lof_in 1 _ rfl) (fun X hG hl => ?_) (by rw [h]; rfl)
  subst hG
  subst hl
  unfold f_X6_without
  refine s_aload_n (pc := 0) 0 dX6_without_0 rfl rfl ?_
  refine s_iload_n (pc := 1) 1 dX6_without_1 rfl rfl ?_
  refine s_grd (fun o1 => ?_)
  refine s_bind (fun q2 hq3 => ?_)
  have hC4 := t_X6_hasPlace (l := xl X) (G := xG X) hq3
  refine s_callV (pc := 2) (As := [.int p1]) (st := []) (nlt rfl) (q := (RX6, TX6, 4)) rfl rfl o1 cl_X6_hasPlace wi_X6_hasPlace wl_X6_hasPlace km_X6_36 rfl rfl (nle rfl) (nle rfl) (nle rfl) dX6_without_2 hC4 ?_
  show S0 X _ M 5 [some (.ref (gh (xG X) + a0)), some (.int p1), none] [.int q2] _
  refine s_ifne (pc := 5) 10 dX6_without_5 rfl ?_ ?_
  · refine s_power (pc := 10) dX6_without_10 (List.mem_of_getElem? (i := 22) rfl) ?_
    refine s_aload_n (pc := 13) 0 dX6_without_13 rfl rfl ?_
    refine s_geti (pc := 14) F_6 2 rfl o1 dX6_without_14 kf_X6_29 ?_
    refine s_iconst (pc := 17) 1 dX6_without_17 kc_1 ?_
    refine s_isub (pc := 18) dX6_without_18 ?_
    refine s_iload_n (pc := 19) 1 dX6_without_19 rfl rfl ?_
    refine s_isub (pc := 20) dX6_without_20 ?_
    refine s_grd (fun i5 => ?_)
    refine s_powi (pc := 21) i5 dX6_without_21 ?_
    refine s_istore_n (pc := 22) 2 dX6_without_22 rfl (nlt rfl) rfl (L' := [some (.ref (gh (xG X) + a0)), some (.int p1), some (.int (pwV (((mI M a0 2) - 1) - p1).toNatClampNeg))]) rfl ?_
    refine s_bv (fun x6 : Int32 => [some (.ref (gh (xG X) + a0)), some (.int p1), some (.int x6)]) (fun x6 => ?_) rfl
    refine s_start (pc := 23) dX6_without_23 (List.mem_of_getElem? (i := 23) rfl) ?_
    refine s_aload_n (pc := 26) 0 dX6_without_26 rfl rfl ?_
    refine s_geti (pc := 27) F_6 2 rfl o1 dX6_without_27 kf_X6_29 ?_
    refine s_iconst (pc := 30) 1 dX6_without_30 kc_1 ?_
    refine s_isub (pc := 31) dX6_without_31 ?_
    refine s_grd (fun i7 => ?_)
    refine s_sti (pc := 32) i7 dX6_without_32 ?_
    refine s_aload_n (pc := 33) 0 dX6_without_33 rfl rfl ?_
    refine s_geti (pc := 34) F_6 3 rfl o1 dX6_without_34 kf_X6_33 ?_
    refine s_iload_n (pc := 37) 2 dX6_without_37 rfl rfl ?_
    refine s_bipush (pc := 38) 6 dX6_without_38 kb_6 ?_
    refine s_imul (pc := 40) dX6_without_40 ?_
    refine s_grd (fun g8 => ?_)
    refine s_idiv (pc := 41) dX6_without_41 g8 ?_
    refine s_iload_n (pc := 42) 2 dX6_without_42 rfl rfl ?_
    refine s_imul (pc := 43) dX6_without_43 ?_
    refine s_iadd (pc := 44) dX6_without_44 ?_
    refine s_aload_n (pc := 45) 0 dX6_without_45 rfl rfl ?_
    refine s_geti (pc := 46) F_6 3 rfl o1 dX6_without_46 kf_X6_33 ?_
    refine s_iload_n (pc := 49) 2 dX6_without_49 rfl rfl ?_
    refine s_grd (fun g9 => ?_)
    refine s_irem (pc := 50) dX6_without_50 g9 ?_
    refine s_iadd (pc := 51) dX6_without_51 ?_
    exact s_iret rfl dX6_without_52
  · refine s_iconst (pc := 8) (-1) dX6_without_8 kc_m1 ?_
    exact s_iret rfl dX6_without_9
set_option maxRecDepth 100000 in
set_option maxHeartbeats 8000000 in
noncomputable def f_X7_addFour (M : Mem) (a0 : Nat) (p1 : Int32) : Option Mem :=
  grd (okO M 7 a0) (Option.bind (f_X7_hasRoomFor M a0 4) (fun q2 => if q2 = 0 then (some M) else (Option.bind (loopO (σ := Mem × Int32) (ρ := Mem) (fun s5 => if s5.2 < 0 then (some (.inr s5.1)) else (Option.bind (mR s5.1 a0 0) (fun r14 => grd (okO s5.1 14 r14) (grd (vp_in (mI s5.1 a0 4) (mL s5.1 r14)) (bv (wI s5.1 r14 (mI s5.1 a0 4).toNatClampNeg ((sr p1 s5.2) &&& 255)) (fun M17 => bv (wI M17 a0 4 ((mI M17 a0 4) + 1)) (fun M21 => bv (s5.2 + (-8) : Int32) (fun x25 => some (.inl (M21, x25)))))))))) (M, 24)) (fun (x12 : Mem) => some x12))))
abbrev Y_X7_addFour : Sta := (RX7, "addFour", cX7_addFour, 3, none, 2)
set_option maxRecDepth 100000 in
set_option maxHeartbeats 8000000 in
theorem t_X7_addFour {l : Launch} {G : Gh} {M : Mem} {a0 : Nat} {p1 : Int32} {q : Mem} (h : f_X7_addFour M a0 p1 = some q) : Ctr l G yX7_addFour Y_X7_addFour M [.ref (gh G + a0), .int p1] q (none) := by
  refine Ctr.of (Y := Y_X7_addFour) (L := [some (.ref (gh G + a0)), some (.int p1), none]) (t := Option.bind (f_X7_addFour M a0 p1) (fun q => some (q, (none : Option Value)))) (by decide) rfl rfl (nle rfl) (Lof_in 1 _ rfl) (fun X hG hl => ?_) (by rw [h]; rfl)
  subst hG
  subst hl
  unfold f_X7_addFour
  refine s_aload_n (pc := 0) 0 dX7_addFour_0 rfl rfl ?_
  refine s_iconst (pc := 1) 4 dX7_addFour_1 kc_4 ?_
  refine s_grd (fun o1 => ?_)
  refine s_bind (fun q2 hq3 => ?_)
  have hC4 := t_X7_hasRoomFor (l := xl X) (G := xG X) hq3
  refine s_callV (pc := 2) (As := [.int 4]) (st := []) (nlt rfl) (q := (RX7, TX7, 10)) rfl rfl o1 cl_X7_hasRoomFor wi_X7_hasRoomFor wl_X7_hasRoomFor km_X7_37 rfl rfl (nle rfl) (nle rfl) (nle rfl) dX7_addFour_2 hC4 ?_
  show S0 X _ M 5 [some (.ref (gh (xG X) + a0)), some (.int p1), none] [.int q2] _
  refine s_ifne (pc := 5) 9 dX7_addFour_5 rfl ?_ ?_
  · refine s_bipush (pc := 9) 24 dX7_addFour_9 kb_24 ?_
    refine s_istore_n (pc := 11) 2 dX7_addFour_11 rfl (nlt rfl) rfl (L' := [some (.ref (gh (xG X) + a0)), some (.int p1), some (.int 24)]) rfl ?_
    refine s_drop (L' := [some (.ref (gh (xG X) + a0)), some (.int p1), some (.int 24)]) ?_ (And.intro rfl (And.intro rfl (And.intro rfl trivial)))
    refine s_loop1 M (fun s5 : Mem × Int32 => s5.1) (fun s5 : Mem × Int32 => [some (.ref (gh (xG X) + a0)), some (.int p1), some (.int s5.2)]) (fun x12 : Mem => x12) 48 (fun x12 : Mem => [none, none, none]) (fun x12 hx13 => ?_) (fun T7 R9 hT8 hR10 s5 hs6 => ?_) (M, 24) Le.rf
    · show S0 X _ x12 48 [none, none, none] [] _
      exact s_vret rfl dX7_addFour_48
    · show S0 X _ s5.1 12 [some (.ref (gh (xG X) + a0)), some (.int p1), some (.int s5.2)] [] _
      have o11 := hs6.ok o1
      refine s_iload_n (pc := 12) 2 dX7_addFour_12 rfl rfl ?_
      refine s_iflt (pc := 13) 48 dX7_addFour_13 rfl ?_ ?_
      · exact s_drop (hR10 s5.1 hs6) trivial
      · refine s_aload_n (pc := 16) 0 dX7_addFour_16 rfl rfl ?_
        refine s_geto (pc := 17) F_7 0 rfl o11 dX7_addFour_17 kf_X7_11 ?_
        refine s_rvB (fun r14 => ?_)
        refine s_aload_n (pc := 20) 0 dX7_addFour_20 rfl rfl ?_
        refine s_geti (pc := 21) F_7 4 rfl o11 dX7_addFour_21 kf_X7_34 ?_
        refine s_iload_n (pc := 24) 1 dX7_addFour_24 rfl rfl ?_
        refine s_iload_n (pc := 25) 2 dX7_addFour_25 rfl rfl ?_
        refine s_ishr (pc := 26) dX7_addFour_26 ?_
        refine s_sipush (pc := 27) 255 dX7_addFour_27 ks_255 ?_
        refine s_iand (pc := 30) dX7_addFour_30 ?_
        refine s_grd (fun o15 => ?_)
        refine s_grd (fun i16 => ?_)
        refine s_iast (pc := 31) o15 i16 dX7_addFour_31 (fun M17 hM18 => ?_)
        have h19 := le_wI hM18
        have o20 := h19.ok o11
        refine s_aload_n (pc := 32) 0 dX7_addFour_32 rfl rfl ?_
        refine s_dup (pc := 33) dX7_addFour_33 rfl ?_
        refine s_geti (pc := 34) F_7 4 rfl o20 dX7_addFour_34 kf_X7_34 ?_
        refine s_iconst (pc := 37) 1 dX7_addFour_37 kc_1 ?_
        refine s_iadd (pc := 38) dX7_addFour_38 ?_
        refine s_puti (pc := 39) F_7 4 rfl o20 rfl rfl rfl dX7_addFour_39 kf_X7_34 (fun M21 hM22 => ?_)
        have h23 := le_wI hM22
        have o24 := h23.ok o20
        refine s_iinc (pc := 42) dX7_addFour_42 rfl (v := s5.2 + (-8)) (congrArg (fun z : Int32 => s5.2 + z) kc_m8) (nlt rfl) rfl (L' := [some (.ref (gh (xG X) + a0)), some (.int p1), some (.int (s5.2 + (-8)))]) rfl ?_
        refine s_bv (fun x25 : Int32 => [some (.ref (gh (xG X) + a0)), some (.int p1), some (.int x25)]) (fun x25 => ?_) rfl
        refine s_goto (pc := 45) 12 dX7_addFour_45 rfl ?_
        exact s_drop (hT8 (M21, x25) (hs6.tr (h19.tr h23))) (And.intro rfl (And.intro rfl (And.intro rfl trivial)))
  · exact s_vret rfl dX7_addFour_8
set_option maxRecDepth 100000 in
set_option maxHeartbeats 8000000 in
noncomputable def f_X7_dishAt (M : Mem) (a0 : Nat) (p1 : Int32) (p2 : Int32) : Option Int32 :=
  if (p2 - p1) ≤ 5 then (Option.bind (loopO (σ := Int32 × Int32) (ρ := Int32 ⊕ Unit) (fun s1 => if p2 ≤ s1.2 then (some (.inr (.inl s1.1))) else (grd (okO M 7 a0) (Option.bind (f_X7_byteAt M a0 s1.2) (fun q14 => if q14 ≤ 6 then (Option.bind (f_X7_byteAt M a0 s1.2) (fun q17 => bv ((s1.1 * 10) + q17 : Int32) (fun x20 => bv (s1.2 + 1 : Int32) (fun x21 => some (.inl (x20, x21)))))) else (some (.inr (.inr ()))))))) (0, p1)) (Sum.elim (fun (x9 : Int32) => Option.bind (f_X6_rankOf x9) (fun q22 => some q22)) (fun (x11 : Unit) => some (-1)))) else (some (-1))
abbrev Y_X7_dishAt : Sta := (RX7, "dishAt", cX7_dishAt, 5, (some .int), 2)
set_option maxRecDepth 100000 in
set_option maxHeartbeats 8000000 in
theorem t_X7_dishAt {l : Launch} {G : Gh} {M : Mem} {a0 : Nat} {p1 : Int32} {p2 : Int32} {q : Int32} (h : f_X7_dishAt M a0 p1 p2 = some q) : Ctr l G yX7_dishAt Y_X7_dishAt M [.ref (gh G + a0), .int p1, .int p2] M (some (.int q)) := by
  refine Ctr.of (Y := Y_X7_dishAt) (L := [some (.ref (gh G + a0)), some (.int p1), some (.int p2), none, none]) (t := Option.bind (f_X7_dishAt M a0 p1 p2) (fun q => some (M, some (.int q)))) (by decide) rfl rfl (nle rfl) (Lof_in 2 _ rfl) (fun X hG hl => ?_) (by rw [h]; rfl)
  subst hG
  subst hl
  unfold f_X7_dishAt
  refine s_iload_n (pc := 0) 2 dX7_dishAt_0 rfl rfl ?_
  refine s_iload_n (pc := 1) 1 dX7_dishAt_1 rfl rfl ?_
  refine s_isub (pc := 2) dX7_dishAt_2 ?_
  refine s_iconst (pc := 3) 5 dX7_dishAt_3 kc_5 ?_
  refine s_icle (pc := 4) 9 dX7_dishAt_4 rfl ?_ ?_
  · refine s_iconst (pc := 9) 0 dX7_dishAt_9 kc_0 ?_
    refine s_istore_n (pc := 10) 3 dX7_dishAt_10 rfl (nlt rfl) rfl (L' := [some (.ref (gh (xG X) + a0)), some (.int p1), some (.int p2), some (.int 0), none]) rfl ?_
    refine s_iload_n (pc := 11) 1 dX7_dishAt_11 rfl rfl ?_
    refine s_istore (pc := 12) dX7_dishAt_12 (nlt rfl) rfl (L' := [some (.ref (gh (xG X) + a0)), some (.int p1), some (.int p2), some (.int 0), some (.int p1)]) rfl ?_
    refine s_drop (L' := [some (.ref (gh (xG X) + a0)), none, some (.int p2), some (.int 0), some (.int p1)]) ?_ (And.intro rfl (And.intro rfl (And.intro rfl (And.intro rfl trivial))))
    refine s_loop2 M (fun s1 : Int32 × Int32 => M) (fun s1 : Int32 × Int32 => [some (.ref (gh (xG X) + a0)), none, some (.int p2), some (.int s1.1), some (.int s1.2)]) (fun x9 : Int32 => M) 51 (fun x9 : Int32 => [none, none, none, some (.int x9), none]) (fun x11 : Unit => M) 31 (fun x11 : Unit => [none, none, none, none, none]) (fun x9 hx10 => ?_) (fun x11 hx12 => ?_) (fun T3 R5 R7 hT4 hR6 hR8 s1 hs2 => ?_) (0, p1) Le.rf
    · show S0 X _ M 51 [none, none, none, some (.int x9), none] [] _
      refine s_iload_n (pc := 51) 3 dX7_dishAt_51 rfl rfl ?_
      refine s_bind (fun q22 hq23 => ?_)
      have hC24 := t_X6_rankOf (l := xl X) (G := xG X) (M := M) hq23
      refine s_callS (pc := 52) (As := [.int x9]) (st := []) cl_X6_rankOf wt_X6_rankOf km_X7_45 rfl rfl (nle rfl) (nle rfl) (nle rfl) dX7_dishAt_52 hC24 ?_
      show S0 X _ M 55 [none, none, none, some (.int x9), none] [.int q22] _
      exact s_iret rfl dX7_dishAt_55
    · show S0 X _ M 31 [none, none, none, none, none] [] _
      refine s_iconst (pc := 31) (-1) dX7_dishAt_31 kc_m1 ?_
      exact s_iret rfl dX7_dishAt_32
    · show S0 X _ M 14 [some (.ref (gh (xG X) + a0)), none, some (.int p2), some (.int s1.1), some (.int s1.2)] [] _
      refine s_iload (pc := 14) dX7_dishAt_14 rfl ?_
      refine s_iload_n (pc := 16) 2 dX7_dishAt_16 rfl rfl ?_
      refine s_icge (pc := 17) 51 dX7_dishAt_17 rfl ?_ ?_
      · exact s_drop (hR6 s1.1 Le.rf) (And.intro rfl trivial)
      · refine s_aload_n (pc := 20) 0 dX7_dishAt_20 rfl rfl ?_
        refine s_iload (pc := 21) dX7_dishAt_21 rfl ?_
        refine s_grd (fun o13 => ?_)
        refine s_bind (fun q14 hq15 => ?_)
        have hC16 := t_X7_byteAt (l := xl X) (G := xG X) hq15
        refine s_callV (pc := 23) (As := [.int s1.2]) (st := []) (nlt rfl) (q := (RX7, TX7, 10)) rfl rfl o13 cl_X7_byteAt wi_X7_byteAt wl_X7_byteAt km_X7_41 rfl rfl (nle rfl) (nle rfl) (nle rfl) dX7_dishAt_23 hC16 ?_
        show S0 X _ M 26 [some (.ref (gh (xG X) + a0)), none, some (.int p2), some (.int s1.1), some (.int s1.2)] [.int q14] _
        refine s_bipush (pc := 26) 6 dX7_dishAt_26 kb_6 ?_
        refine s_icle (pc := 28) 33 dX7_dishAt_28 rfl ?_ ?_
        · refine s_iload_n (pc := 33) 3 dX7_dishAt_33 rfl rfl ?_
          refine s_bipush (pc := 34) 10 dX7_dishAt_34 kb_10 ?_
          refine s_imul (pc := 36) dX7_dishAt_36 ?_
          refine s_aload_n (pc := 37) 0 dX7_dishAt_37 rfl rfl ?_
          refine s_iload (pc := 38) dX7_dishAt_38 rfl ?_
          refine s_bind (fun q17 hq18 => ?_)
          have hC19 := t_X7_byteAt (l := xl X) (G := xG X) hq18
          refine s_callV (pc := 40) (As := [.int s1.2]) (st := [.int (s1.1 * 10)]) (nlt rfl) (q := (RX7, TX7, 10)) rfl rfl o13 cl_X7_byteAt wi_X7_byteAt wl_X7_byteAt km_X7_41 rfl rfl (nle rfl) (nle rfl) (nle rfl) dX7_dishAt_40 hC19 ?_
          show S0 X _ M 43 [some (.ref (gh (xG X) + a0)), none, some (.int p2), some (.int s1.1), some (.int s1.2)] [.int q17, .int (s1.1 * 10)] _
          refine s_iadd (pc := 43) dX7_dishAt_43 ?_
          refine s_istore_n (pc := 44) 3 dX7_dishAt_44 rfl (nlt rfl) rfl (L' := [some (.ref (gh (xG X) + a0)), none, some (.int p2), some (.int ((s1.1 * 10) + q17)), some (.int s1.2)]) rfl ?_
          refine s_bv (fun x20 : Int32 => [some (.ref (gh (xG X) + a0)), none, some (.int p2), some (.int x20), some (.int s1.2)]) (fun x20 => ?_) rfl
          refine s_iinc (pc := 45) dX7_dishAt_45 rfl (v := s1.2 + 1) (congrArg (fun z : Int32 => s1.2 + z) kc_1) (nlt rfl) rfl (L' := [some (.ref (gh (xG X) + a0)), none, some (.int p2), some (.int x20), some (.int (s1.2 + 1))]) rfl ?_
          refine s_bv (fun x21 : Int32 => [some (.ref (gh (xG X) + a0)), none, some (.int p2), some (.int x20), some (.int x21)]) (fun x21 => ?_) rfl
          refine s_goto (pc := 48) 14 dX7_dishAt_48 rfl ?_
          exact s_drop (hT4 (x20, x21) Le.rf) (And.intro rfl (And.intro rfl (And.intro rfl (And.intro rfl trivial))))
        · exact s_drop (hR8 () Le.rf) trivial
  · refine s_iconst (pc := 7) (-1) dX7_dishAt_7 kc_m1 ?_
    exact s_iret rfl dX7_dishAt_8
set_option maxRecDepth 100000 in
set_option maxHeartbeats 8000000 in
noncomputable def f_X7_init (M : Mem) (a0 : Nat) : Option Mem :=
  bv (nA M 14 (400 : Int32).toNatClampNeg) (fun M1 => grd (okO M1 7 a0) (bv (wR M1 a0 0 (some (mn M))) (fun M6 => bv (nA M6 14 (401 : Int32).toNatClampNeg) (fun M10 => bv (wR M10 a0 1 (some (mn M6))) (fun M15 => bv (nA M15 14 (401 : Int32).toNatClampNeg) (fun M19 => bv (wR M19 a0 2 (some (mn M15))) (fun M24 => bv (nO M24 9 5) (fun M28 => Option.bind (f_X9_init M28 (mn M24) 12 800) (fun q33 => bv (wR q33 a0 3 (some (mn M24))) (fun M39 => bv (wI M39 a0 5 (-1)) (fun M43 => some M43)))))))))))
abbrev Y_X7_init : Sta := (RX7, "<init>", cX7_init, 1, none, 2)
set_option maxRecDepth 100000 in
set_option maxHeartbeats 8000000 in
theorem t_X7_init {l : Launch} {G : Gh} {M : Mem} {a0 : Nat} {q : Mem} (h : f_X7_init M a0 = some q) : Ctr l G yX7_init Y_X7_init M [.ref (gh G + a0)] q (none) := by
  refine Ctr.of (Y := Y_X7_init) (L := [some (.ref (gh G + a0))]) (t := Option.bind (f_X7_init M a0) (fun q => some (q, (none : Option Value)))) (by decide) rfl rfl (nle rfl) (Lof_in 0 _ rfl) (fun X hG hl => ?_) (by rw [h]; rfl)
  subst hG
  subst hl
  unfold f_X7_init
  refine s_aload_n (pc := 0) 0 dX7_init_0 rfl rfl ?_
  refine s_obj (pc := 1) km_X7_3 wi_obj wc_obj (nle rfl) (nle rfl) dX7_init_1 ?_
  refine s_aload_n (pc := 4) 0 dX7_init_4 rfl rfl ?_
  refine s_sipush (pc := 5) 400 dX7_init_5 ks_400 ?_
  refine s_newa_int (pc := 8) (And.intro (by decide) (by decide)) dX7_init_8 wa_int (fun M1 hM2 => ?_)
  have h3 := le_nA hM2
  have o4 := ok_nA hM2
  refine s_grd (fun o5 => ?_)
  refine s_putrF (pc := 10) F_7 0 rfl o5 rfl rfl rfl rfl rfl dX7_init_10 kf_X7_11 (fun M6 hM7 => ?_)
  have h8 := le_wR hM7
  have o9 := h8.ok o5
  refine s_aload_n (pc := 13) 0 dX7_init_13 rfl rfl ?_
  refine s_sipush (pc := 14) 401 dX7_init_14 ks_401 ?_
  refine s_newa_int (pc := 17) (And.intro (by decide) (by decide)) dX7_init_17 wa_int (fun M10 hM11 => ?_)
  have h12 := le_nA hM11
  have o13 := h12.ok o9
  have o14 := ok_nA hM11
  refine s_putrF (pc := 19) F_7 1 rfl o13 rfl rfl rfl rfl rfl dX7_init_19 kf_X7_15 (fun M15 hM16 => ?_)
  have h17 := le_wR hM16
  have o18 := h17.ok o13
  refine s_aload_n (pc := 22) 0 dX7_init_22 rfl rfl ?_
  refine s_sipush (pc := 23) 401 dX7_init_23 ks_401 ?_
  refine s_newa_int (pc := 26) (And.intro (by decide) (by decide)) dX7_init_26 wa_int (fun M19 hM20 => ?_)
  have h21 := le_nA hM20
  have o22 := h21.ok o18
  have o23 := ok_nA hM20
  refine s_putrF (pc := 28) F_7 2 rfl o22 rfl rfl rfl rfl rfl dX7_init_28 kf_X7_18 (fun M24 hM25 => ?_)
  have h26 := le_wR hM25
  have o27 := h26.ok o22
  refine s_aload_n (pc := 31) 0 dX7_init_31 rfl rfl ?_
  refine s_new (pc := 32) F_9 kk_X7_21 dX7_init_32 (fun M28 hM29 => ?_)
  have h30 := le_nO hM29
  have o31 := h30.ok o27
  have o32 := ok_nO hM29
  refine s_dup (pc := 35) dX7_init_35 rfl ?_
  refine s_bipush (pc := 36) 12 dX7_init_36 kb_12 ?_
  refine s_sipush (pc := 38) 800 dX7_init_38 ks_800 ?_
  refine s_bind (fun q33 hq34 => ?_)
  have hC35 := t_X9_init (l := xl X) (G := xG X) hq34
  refine s_callI (pc := 41) (As := [.int 12, .int 800]) (st := [.ref (gh (xG X) + (mn M24)), .ref (gh (xG X) + a0)]) rfl rfl cl_X9_init wi_X9_init km_X7_23 rfl rfl (nle rfl) (nle rfl) (nle rfl) dX7_init_41 hC35 ?_
  have h36 := hC35.1 X
  have o37 := h36.ok o31
  have o38 := h36.ok o32
  show S0 X _ q33 44 [some (.ref (gh (xG X) + a0))] [.ref (gh (xG X) + (mn M24)), .ref (gh (xG X) + a0)] _
  refine s_putrF (pc := 44) F_7 3 rfl o37 rfl rfl rfl rfl rfl dX7_init_44 kf_X7_26 (fun M39 hM40 => ?_)
  have h41 := le_wR hM40
  have o42 := h41.ok o37
  refine s_aload_n (pc := 47) 0 dX7_init_47 rfl rfl ?_
  refine s_iconst (pc := 48) (-1) dX7_init_48 kc_m1 ?_
  refine s_puti (pc := 49) F_7 5 rfl o42 rfl rfl rfl dX7_init_49 kf_X7_30 (fun M43 hM44 => ?_)
  have h45 := le_wI hM44
  have o46 := h45.ok o42
  exact s_vret rfl dX7_init_52
set_option maxRecDepth 100000 in
set_option maxHeartbeats 8000000 in
noncomputable def f_X7_kindAt (M : Mem) (a0 : Nat) (p1 : Int32) : Option Int32 :=
  grd (okO M 7 a0) (Option.bind (f_X7_byteAt M a0 p1) (fun q2 => bv (fun (s6 : Unit) => if q2 < 48 then (some 2) else (if 57 < q2 then (some 2) else (some 1))) (fun j5 => if q2 < 97 then (j5 ()) else (if 122 < q2 then (j5 ()) else (some 0)))))
abbrev Y_X7_kindAt : Sta := (RX7, "kindAt", cX7_kindAt, 3, (some .int), 2)
set_option maxRecDepth 100000 in
set_option maxHeartbeats 8000000 in
theorem t_X7_kindAt {l : Launch} {G : Gh} {M : Mem} {a0 : Nat} {p1 : Int32} {q : Int32} (h : f_X7_kindAt M a0 p1 = some q) : Ctr l G yX7_kindAt Y_X7_kindAt M [.ref (gh G + a0), .int p1] M (some (.int q)) := by
  refine Ctr.of (Y := Y_X7_kindAt) (L := [some (.ref (gh G + a0)), some (.int p1), none]) (t := Option.bind (f_X7_kindAt M a0 p1) (fun q => some (M, some (.int q)))) (by decide) rfl rfl (nle rfl) (Lof_in 1 _ rfl) (fun X hG hl => ?_) (by rw [h]; rfl)
  subst hG
  subst hl
  unfold f_X7_kindAt
  refine s_aload_n (pc := 0) 0 dX7_kindAt_0 rfl rfl ?_
  refine s_iload_n (pc := 1) 1 dX7_kindAt_1 rfl rfl ?_
  refine s_grd (fun o1 => ?_)
  refine s_bind (fun q2 hq3 => ?_)
  have hC4 := t_X7_byteAt (l := xl X) (G := xG X) hq3
  refine s_callV (pc := 2) (As := [.int p1]) (st := []) (nlt rfl) (q := (RX7, TX7, 10)) rfl rfl o1 cl_X7_byteAt wi_X7_byteAt wl_X7_byteAt km_X7_41 rfl rfl (nle rfl) (nle rfl) (nle rfl) dX7_kindAt_2 hC4 ?_
  show S0 X _ M 5 [some (.ref (gh (xG X) + a0)), some (.int p1), none] [.int q2] _
  refine s_istore_n (pc := 5) 2 dX7_kindAt_5 rfl (nlt rfl) rfl (L' := [some (.ref (gh (xG X) + a0)), some (.int p1), some (.int q2)]) rfl ?_
  refine s_iload_n (pc := 6) 2 dX7_kindAt_6 rfl rfl ?_
  refine s_bipush (pc := 7) 97 dX7_kindAt_7 kb_97 ?_
  refine s_join M (fun s6 : Unit => M) 20 (fun s6 : Unit => [none, none, some (.int q2)]) (fun s6 : Unit => []) (fun s6 hs7 => ?_) (fun j5 hj8 => ?_)
  · show S0 X _ M 20 [none, none, some (.int q2)] [] _
    refine s_iload_n (pc := 20) 2 dX7_kindAt_20 rfl rfl ?_
    refine s_bipush (pc := 21) 48 dX7_kindAt_21 kb_48 ?_
    refine s_iclt (pc := 23) 36 dX7_kindAt_23 rfl ?_ ?_
    · refine s_iconst (pc := 36) 2 dX7_kindAt_36 kc_2 ?_
      exact s_iret rfl dX7_kindAt_37
    · refine s_iload_n (pc := 26) 2 dX7_kindAt_26 rfl rfl ?_
      refine s_bipush (pc := 27) 57 dX7_kindAt_27 kb_57 ?_
      refine s_icgt (pc := 29) 36 dX7_kindAt_29 rfl ?_ ?_
      · refine s_iconst (pc := 36) 2 dX7_kindAt_36 kc_2 ?_
        exact s_iret rfl dX7_kindAt_37
      · refine s_iconst (pc := 32) 1 dX7_kindAt_32 kc_1 ?_
        refine s_goto (pc := 33) 37 dX7_kindAt_33 rfl ?_
        exact s_iret rfl dX7_kindAt_37
  · refine s_iclt (pc := 9) 20 dX7_kindAt_9 rfl ?_ ?_
    · exact s_drop (hj8 () Le.rf) (And.intro rfl trivial)
    · refine s_iload_n (pc := 12) 2 dX7_kindAt_12 rfl rfl ?_
      refine s_bipush (pc := 13) 122 dX7_kindAt_13 kb_122 ?_
      refine s_icgt (pc := 15) 20 dX7_kindAt_15 rfl ?_ ?_
      · exact s_drop (hj8 () Le.rf) (And.intro rfl trivial)
      · refine s_iconst (pc := 18) 0 dX7_kindAt_18 kc_0 ?_
        exact s_iret rfl dX7_kindAt_19
set_option maxRecDepth 100000 in
set_option maxHeartbeats 8000000 in
noncomputable def f_X7_orderWord (M : Mem) (a0 : Nat) : Option (Mem × Int32) :=
  grd (okO M 7 a0) (bv (fun (s3 : Unit) => bv (fun (s7 : Unit) => bv (fun (s11 : Int32) => Option.bind (f_X7_next M a0) (fun q14 => bv ((mI q14 a0 8) - 1000 : Int32) (fun x19 => if x19 < 0 then (some (q14, (-1))) else (if x19 < 12 then (if s11 = 0 then (Option.bind (f_X7_next q14 a0) (fun q20 => bv ((mI q20 a0 8) - 1000 : Int32) (fun x25 => Option.bind (f_X11_isThing x25) (fun q26 => if q26 = 0 then (some (q20, (-1))) else (some (q20, (16 + (x19 * 6)) + x25)))))) else (some (q14, 4 + x19))) else (some (q14, (-1))))))) (fun j10 => if (mI M a0 8) = 275 then (j10 1) else (j10 0))) (fun j6 => if (mI M a0 8) = 275 then (j6 ()) else (if (mI M a0 8) = 276 then (j6 ()) else (some (M, (-1)))))) (fun j2 => if (mI M a0 8) < 280 then (j2 ()) else (if 283 < (mI M a0 8) then (j2 ()) else (some (M, (0 + (mI M a0 8)) - 280)))))
abbrev Y_X7_orderWord : Sta := (RX7, "orderWord", cX7_orderWord, 4, (some .int), 2)
set_option maxRecDepth 100000 in
set_option maxHeartbeats 8000000 in
theorem t_X7_orderWord {l : Launch} {G : Gh} {M : Mem} {a0 : Nat} {q : Mem × Int32} (h : f_X7_orderWord M a0 = some q) : Ctr l G yX7_orderWord Y_X7_orderWord M [.ref (gh G + a0)] q.1 (some (.int q.2)) := by
  refine Ctr.of (Y := Y_X7_orderWord) (L := [some (.ref (gh G + a0)), none, none, none]) (t := Option.bind (f_X7_orderWord M a0) (fun q => some (q.1, some (.int q.2)))) (by decide) rfl rfl (nle rfl) (Lof_in 3 _ rfl) (fun X hG hl => ?_) (by rw [h]; rfl)
  subst hG
  subst hl
  unfold f_X7_orderWord
  refine s_aload_n (pc := 0) 0 dX7_orderWord_0 rfl rfl ?_
  refine s_grd (fun o1 => ?_)
  refine s_geti (pc := 1) F_7 8 rfl o1 dX7_orderWord_1 kf_X7_66 ?_
  refine s_sipush (pc := 4) 280 dX7_orderWord_4 ks_280 ?_
  refine s_join M (fun s3 : Unit => M) 31 (fun s3 : Unit => [some (.ref (gh (xG X) + a0)), none, none, none]) (fun s3 : Unit => []) (fun s3 hs4 => ?_) (fun j2 hj5 => ?_)
  · show S0 X _ M 31 [some (.ref (gh (xG X) + a0)), none, none, none] [] _
    refine s_aload_n (pc := 31) 0 dX7_orderWord_31 rfl rfl ?_
    refine s_geti (pc := 32) F_7 8 rfl o1 dX7_orderWord_32 kf_X7_66 ?_
    refine s_sipush (pc := 35) 275 dX7_orderWord_35 ks_275 ?_
    refine s_join M (fun s7 : Unit => M) 53 (fun s7 : Unit => [some (.ref (gh (xG X) + a0)), none, none, none]) (fun s7 : Unit => []) (fun s7 hs8 => ?_) (fun j6 hj9 => ?_)
    · show S0 X _ M 53 [some (.ref (gh (xG X) + a0)), none, none, none] [] _
      refine s_aload_n (pc := 53) 0 dX7_orderWord_53 rfl rfl ?_
      refine s_geti (pc := 54) F_7 8 rfl o1 dX7_orderWord_54 kf_X7_66 ?_
      refine s_sipush (pc := 57) 275 dX7_orderWord_57 ks_275 ?_
      refine s_join M (fun s11 : Int32 => M) 68 (fun s11 : Int32 => [some (.ref (gh (xG X) + a0)), none, none, none]) (fun s11 : Int32 => [.int s11]) (fun s11 hs12 => ?_) (fun j10 hj13 => ?_)
      · show S0 X _ M 68 [some (.ref (gh (xG X) + a0)), none, none, none] [.int s11] _
        refine s_istore_n (pc := 68) 1 dX7_orderWord_68 rfl (nlt rfl) rfl (L' := [some (.ref (gh (xG X) + a0)), some (.int s11), none, none]) rfl ?_
        refine s_aload_n (pc := 69) 0 dX7_orderWord_69 rfl rfl ?_
        refine s_bind (fun q14 hq15 => ?_)
        have hC16 := t_X7_next (l := xl X) (G := xG X) hq15
        refine s_callV (pc := 70) (As := []) (st := []) (nlt rfl) (q := (RX7, TX7, 10)) rfl rfl o1 cl_X7_next wi_X7_next wl_X7_next km_X7_79 rfl rfl (nle rfl) (nle rfl) (nle rfl) dX7_orderWord_70 hC16 ?_
        have h17 := hC16.1 X
        have o18 := h17.ok o1
        show S0 X _ q14 73 [some (.ref (gh (xG X) + a0)), some (.int s11), none, none] [] _
        refine s_aload_n (pc := 73) 0 dX7_orderWord_73 rfl rfl ?_
        refine s_geti (pc := 74) F_7 8 rfl o18 dX7_orderWord_74 kf_X7_66 ?_
        refine s_sipush (pc := 77) 1000 dX7_orderWord_77 ks_1000 ?_
        refine s_isub (pc := 80) dX7_orderWord_80 ?_
        refine s_istore_n (pc := 81) 2 dX7_orderWord_81 rfl (nlt rfl) rfl (L' := [some (.ref (gh (xG X) + a0)), some (.int s11), some (.int ((mI q14 a0 8) - 1000)), none]) rfl ?_
        refine s_bv (fun x19 : Int32 => [some (.ref (gh (xG X) + a0)), some (.int s11), some (.int x19), none]) (fun x19 => ?_) rfl
        refine s_iload_n (pc := 82) 2 dX7_orderWord_82 rfl rfl ?_
        refine s_iflt (pc := 83) 92 dX7_orderWord_83 rfl ?_ ?_
        · refine s_iconst (pc := 92) (-1) dX7_orderWord_92 kc_m1 ?_
          exact s_iret rfl dX7_orderWord_93
        · refine s_iload_n (pc := 86) 2 dX7_orderWord_86 rfl rfl ?_
          refine s_bipush (pc := 87) 12 dX7_orderWord_87 kb_12 ?_
          refine s_iclt (pc := 89) 94 dX7_orderWord_89 rfl ?_ ?_
          · refine s_iload_n (pc := 94) 1 dX7_orderWord_94 rfl rfl ?_
            refine s_ifeq (pc := 95) 102 dX7_orderWord_95 rfl ?_ ?_
            · refine s_aload_n (pc := 102) 0 dX7_orderWord_102 rfl rfl ?_
              refine s_bind (fun q20 hq21 => ?_)
              have hC22 := t_X7_next (l := xl X) (G := xG X) hq21
              refine s_callV (pc := 103) (As := []) (st := []) (nlt rfl) (q := (RX7, TX7, 10)) rfl rfl o18 cl_X7_next wi_X7_next wl_X7_next km_X7_79 rfl rfl (nle rfl) (nle rfl) (nle rfl) dX7_orderWord_103 hC22 ?_
              have h23 := hC22.1 X
              have o24 := h23.ok o18
              show S0 X _ q20 106 [some (.ref (gh (xG X) + a0)), some (.int s11), some (.int x19), none] [] _
              refine s_aload_n (pc := 106) 0 dX7_orderWord_106 rfl rfl ?_
              refine s_geti (pc := 107) F_7 8 rfl o24 dX7_orderWord_107 kf_X7_66 ?_
              refine s_sipush (pc := 110) 1000 dX7_orderWord_110 ks_1000 ?_
              refine s_isub (pc := 113) dX7_orderWord_113 ?_
              refine s_istore_n (pc := 114) 3 dX7_orderWord_114 rfl (nlt rfl) rfl (L' := [some (.ref (gh (xG X) + a0)), some (.int s11), some (.int x19), some (.int ((mI q20 a0 8) - 1000))]) rfl ?_
              refine s_bv (fun x25 : Int32 => [some (.ref (gh (xG X) + a0)), some (.int s11), some (.int x19), some (.int x25)]) (fun x25 => ?_) rfl
              refine s_iload_n (pc := 115) 3 dX7_orderWord_115 rfl rfl ?_
              refine s_bind (fun q26 hq27 => ?_)
              have hC28 := t_X11_isThing (l := xl X) (G := xG X) (M := q20) hq27
              refine s_callSN (pc := 116) (As := [.int x25]) (st := []) cl_X11_isThing wt_X11_isThing (List.mem_of_getElem? (i := 6) rfl) rfl rfl (nle rfl) (nle rfl) (nle rfl) dX7_orderWord_116 hC28 ?_
              show S0 X _ q20 119 [some (.ref (gh (xG X) + a0)), some (.int s11), some (.int x19), some (.int x25)] [.int q26] _
              refine s_ifeq (pc := 119) 134 dX7_orderWord_119 rfl ?_ ?_
              · refine s_iconst (pc := 134) (-1) dX7_orderWord_134 kc_m1 ?_
                exact s_iret rfl dX7_orderWord_135
              · refine s_bipush (pc := 122) 16 dX7_orderWord_122 kb_16 ?_
                refine s_iload_n (pc := 124) 2 dX7_orderWord_124 rfl rfl ?_
                refine s_bipush (pc := 125) 6 dX7_orderWord_125 kb_6 ?_
                refine s_imul (pc := 127) dX7_orderWord_127 ?_
                refine s_iadd (pc := 128) dX7_orderWord_128 ?_
                refine s_iload_n (pc := 129) 3 dX7_orderWord_129 rfl rfl ?_
                refine s_iadd (pc := 130) dX7_orderWord_130 ?_
                refine s_goto (pc := 131) 135 dX7_orderWord_131 rfl ?_
                exact s_iret rfl dX7_orderWord_135
            · refine s_iconst (pc := 98) 4 dX7_orderWord_98 kc_4 ?_
              refine s_iload_n (pc := 99) 2 dX7_orderWord_99 rfl rfl ?_
              refine s_iadd (pc := 100) dX7_orderWord_100 ?_
              exact s_iret rfl dX7_orderWord_101
          · refine s_iconst (pc := 92) (-1) dX7_orderWord_92 kc_m1 ?_
            exact s_iret rfl dX7_orderWord_93
      · refine s_icne (pc := 60) 67 dX7_orderWord_60 rfl ?_ ?_
        · refine s_iconst (pc := 67) 0 dX7_orderWord_67 kc_0 ?_
          exact s_drop (hj13 0 Le.rf) (And.intro rfl trivial)
        · refine s_iconst (pc := 63) 1 dX7_orderWord_63 kc_1 ?_
          refine s_goto (pc := 64) 68 dX7_orderWord_64 rfl ?_
          exact s_drop (hj13 1 Le.rf) (And.intro rfl trivial)
    · refine s_iceq (pc := 38) 53 dX7_orderWord_38 rfl ?_ ?_
      · exact s_drop (hj9 () Le.rf) (And.intro rfl trivial)
      · refine s_aload_n (pc := 41) 0 dX7_orderWord_41 rfl rfl ?_
        refine s_geti (pc := 42) F_7 8 rfl o1 dX7_orderWord_42 kf_X7_66 ?_
        refine s_sipush (pc := 45) 276 dX7_orderWord_45 ks_276 ?_
        refine s_iceq (pc := 48) 53 dX7_orderWord_48 rfl ?_ ?_
        · exact s_drop (hj9 () Le.rf) (And.intro rfl trivial)
        · refine s_iconst (pc := 51) (-1) dX7_orderWord_51 kc_m1 ?_
          exact s_iret rfl dX7_orderWord_52
  · refine s_iclt (pc := 7) 31 dX7_orderWord_7 rfl ?_ ?_
    · exact s_drop (hj5 () Le.rf) (And.intro rfl trivial)
    · refine s_aload_n (pc := 10) 0 dX7_orderWord_10 rfl rfl ?_
      refine s_geti (pc := 11) F_7 8 rfl o1 dX7_orderWord_11 kf_X7_66 ?_
      refine s_sipush (pc := 14) 283 dX7_orderWord_14 ks_283 ?_
      refine s_icgt (pc := 17) 31 dX7_orderWord_17 rfl ?_ ?_
      · exact s_drop (hj5 () Le.rf) (And.intro rfl trivial)
      · refine s_iconst (pc := 20) 0 dX7_orderWord_20 kc_0 ?_
        refine s_aload_n (pc := 21) 0 dX7_orderWord_21 rfl rfl ?_
        refine s_geti (pc := 22) F_7 8 rfl o1 dX7_orderWord_22 kf_X7_66 ?_
        refine s_iadd (pc := 25) dX7_orderWord_25 ?_
        refine s_sipush (pc := 26) 280 dX7_orderWord_26 ks_280 ?_
        refine s_isub (pc := 29) dX7_orderWord_29 ?_
        exact s_iret rfl dX7_orderWord_30
set_option maxRecDepth 100000 in
set_option maxHeartbeats 8000000 in
noncomputable def f_X8_init (M : Mem) (a0 : Nat) (a1 : Nat) : Option Mem :=
  bv (nO M 3 2) (fun M1 => Option.bind (f_X3_init M1 (mn M)) (fun q5 => grd (okO q5 8 a0) (bv (wR q5 a0 1 (some (mn M))) (fun M11 => bv (nA M11 14 (6480 : Int32).toNatClampNeg) (fun M15 => bv (wR M15 a0 2 (some (mn M11))) (fun M20 => bv (wR M20 a0 0 (some a1)) (fun M24 => some M24)))))))
abbrev Y_X8_init : Sta := (RX8, "<init>", cX8_init, 2, none, 2)
set_option maxRecDepth 100000 in
set_option maxHeartbeats 8000000 in
theorem t_X8_init {l : Launch} {G : Gh} {M : Mem} {a0 : Nat} {a1 : Nat} {q : Mem} (h : f_X8_init M a0 a1 = some q) : Ctr l G yX8_init Y_X8_init M [.ref (gh G + a0), .ref (gh G + a1)] q (none) := by
  refine Ctr.of (Y := Y_X8_init) (L := [some (.ref (gh G + a0)), some (.ref (gh G + a1))]) (t := Option.bind (f_X8_init M a0 a1) (fun q => some (q, (none : Option Value)))) (by decide) rfl rfl (nle rfl) (Lof_in 0 _ rfl) (fun X hG hl => ?_) (by rw [h]; rfl)
  subst hG
  subst hl
  unfold f_X8_init
  refine s_aload_n (pc := 0) 0 dX8_init_0 rfl rfl ?_
  refine s_obj (pc := 1) km_X8_3 wi_obj wc_obj (nle rfl) (nle rfl) dX8_init_1 ?_
  refine s_aload_n (pc := 4) 0 dX8_init_4 rfl rfl ?_
  refine s_new (pc := 5) F_3 kk_X8_9 dX8_init_5 (fun M1 hM2 => ?_)
  have h3 := le_nO hM2
  have o4 := ok_nO hM2
  refine s_dup (pc := 8) dX8_init_8 rfl ?_
  refine s_bind (fun q5 hq6 => ?_)
  have hC7 := t_X3_init (l := xl X) (G := xG X) hq6
  refine s_callIN (pc := 9) (As := []) (st := [.ref (gh (xG X) + (mn M)), .ref (gh (xG X) + a0)]) rfl rfl cl_X3_init wi_X3_init (List.mem_of_getElem? (i := 3) rfl) rfl rfl (nle rfl) (nle rfl) (nle rfl) dX8_init_9 hC7 ?_
  have h8 := hC7.1 X
  have o9 := h8.ok o4
  show S0 X _ q5 12 [some (.ref (gh (xG X) + a0)), some (.ref (gh (xG X) + a1))] [.ref (gh (xG X) + (mn M)), .ref (gh (xG X) + a0)] _
  refine s_grd (fun o10 => ?_)
  refine s_putrF (pc := 12) F_8 1 rfl o10 rfl rfl rfl rfl rfl dX8_init_12 kf_X8_12 (fun M11 hM12 => ?_)
  have h13 := le_wR hM12
  have o14 := h13.ok o10
  refine s_aload_n (pc := 15) 0 dX8_init_15 rfl rfl ?_
  refine s_sipush (pc := 16) 6480 dX8_init_16 ks_6480 ?_
  refine s_newa_int (pc := 19) (And.intro (by decide) (by decide)) dX8_init_19 wa_int (fun M15 hM16 => ?_)
  have h17 := le_nA hM16
  have o18 := h17.ok o14
  have o19 := ok_nA hM16
  refine s_putrF (pc := 21) F_8 2 rfl o18 rfl rfl rfl rfl rfl dX8_init_21 kf_X8_18 (fun M20 hM21 => ?_)
  have h22 := le_wR hM21
  have o23 := h22.ok o18
  refine s_aload_n (pc := 24) 0 dX8_init_24 rfl rfl ?_
  refine s_aload_n (pc := 25) 1 dX8_init_25 rfl rfl ?_
  refine s_putrF (pc := 26) F_8 0 rfl o23 rfl rfl rfl rfl rfl dX8_init_26 kf_X8_22 (fun M24 hM25 => ?_)
  have h26 := le_wR hM25
  have o27 := h26.ok o23
  exact s_vret rfl dX8_init_29
set_option maxRecDepth 100000 in
set_option maxHeartbeats 8000000 in
noncomputable def f_X8_open (M : Mem) (a0 : Nat) (p1 : Int32) : Option Mem :=
  grd (okO M 8 a0) (bv (fun (s3 : Int32) => Option.bind (mR M a0 0) (fun r6 => grd (okO M 10 r6) (bv (fun (s9 : Unit) => Option.bind (mR M a0 0) (fun r12 => grd (okO M 10 r12) (bv (wI M a0 5 (mI M r12 13)) (fun M14 => bv (wI M14 a0 6 p1) (fun M18 => Option.bind (mR M18 a0 0) (fun r22 => grd (okO M18 10 r22) (Option.bind (f_X10_textInForce M18 r22) (fun q24 => bv (wR M18 a0 3 q24) (fun M27 => bv (wI M27 a0 4 ((mI M27 a0 4) + 1)) (fun M31 => some M31)))))))))) (fun j8 => if (mI M a0 5) = (mI M r6 13) then (if s3 = 0 then (j8 ()) else (some M)) else (j8 ()))))) (fun j2 => bv (fun (s36 : Unit) => j2 1) (fun j35 => if (mI M a0 6) = p1 then (j35 ()) else (ncase (mR M a0 3) (j35 ()) (fun r39 => Option.bind (mR M a0 3) (fun r40 => grd (okO M 9 r40) (if (mI M r40 4) = 0 then (j35 ()) else (j2 0))))))))
abbrev Y_X8_open : Sta := (RX8, "open", cX8_open, 3, none, 2)
set_option maxRecDepth 100000 in
set_option maxHeartbeats 8000000 in
theorem t_X8_open {l : Launch} {G : Gh} {M : Mem} {a0 : Nat} {p1 : Int32} {q : Mem} (h : f_X8_open M a0 p1 = some q) : Ctr l G yX8_open Y_X8_open M [.ref (gh G + a0), .int p1] q (none) := by
  refine Ctr.of (Y := Y_X8_open) (L := [some (.ref (gh G + a0)), some (.int p1), none]) (t := Option.bind (f_X8_open M a0 p1) (fun q => some (q, (none : Option Value)))) (by decide) rfl rfl (nle rfl) (Lof_in 1 _ rfl) (fun X hG hl => ?_) (by rw [h]; rfl)
  subst hG
  subst hl
  unfold f_X8_open
  refine s_aload_n (pc := 0) 0 dX8_open_0 rfl rfl ?_
  refine s_grd (fun o1 => ?_)
  refine s_geti (pc := 1) F_8 6 rfl o1 dX8_open_1 kf_X8_26 ?_
  refine s_iload_n (pc := 4) 1 dX8_open_4 rfl rfl ?_
  refine s_join M (fun s3 : Int32 => M) 30 (fun s3 : Int32 => [some (.ref (gh (xG X) + a0)), some (.int p1), none]) (fun s3 : Int32 => [.int s3]) (fun s3 hs4 => ?_) (fun j2 hj5 => ?_)
  · show S0 X _ M 30 [some (.ref (gh (xG X) + a0)), some (.int p1), none] [.int s3] _
    refine s_istore_n (pc := 30) 2 dX8_open_30 rfl (nlt rfl) rfl (L' := [some (.ref (gh (xG X) + a0)), some (.int p1), some (.int s3)]) rfl ?_
    refine s_aload_n (pc := 31) 0 dX8_open_31 rfl rfl ?_
    refine s_geti (pc := 32) F_8 5 rfl o1 dX8_open_32 kf_X8_40 ?_
    refine s_aload_n (pc := 35) 0 dX8_open_35 rfl rfl ?_
    refine s_geto (pc := 36) F_8 0 rfl o1 dX8_open_36 kf_X8_22 ?_
    refine s_rvB (fun r6 => ?_)
    refine s_grd (fun o7 => ?_)
    refine s_getiN (pc := 39) F_10 13 rfl o7 dX8_open_39 (List.mem_of_getElem? (i := 18) rfl) ?_
    refine s_join M (fun s9 : Unit => M) 50 (fun s9 : Unit => [some (.ref (gh (xG X) + a0)), some (.int p1), none]) (fun s9 : Unit => []) (fun s9 hs10 => ?_) (fun j8 hj11 => ?_)
    · show S0 X _ M 50 [some (.ref (gh (xG X) + a0)), some (.int p1), none] [] _
      refine s_aload_n (pc := 50) 0 dX8_open_50 rfl rfl ?_
      refine s_aload_n (pc := 51) 0 dX8_open_51 rfl rfl ?_
      refine s_geto (pc := 52) F_8 0 rfl o1 dX8_open_52 kf_X8_22 ?_
      refine s_rvB (fun r12 => ?_)
      refine s_grd (fun o13 => ?_)
      refine s_getiN (pc := 55) F_10 13 rfl o13 dX8_open_55 (List.mem_of_getElem? (i := 18) rfl) ?_
      refine s_puti (pc := 58) F_8 5 rfl o1 rfl rfl rfl dX8_open_58 kf_X8_40 (fun M14 hM15 => ?_)
      have h16 := le_wI hM15
      have o17 := h16.ok o1
      refine s_aload_n (pc := 61) 0 dX8_open_61 rfl rfl ?_
      refine s_iload_n (pc := 62) 1 dX8_open_62 rfl rfl ?_
      refine s_puti (pc := 63) F_8 6 rfl o17 rfl rfl rfl dX8_open_63 kf_X8_26 (fun M18 hM19 => ?_)
      have h20 := le_wI hM19
      have o21 := h20.ok o17
      refine s_aload_n (pc := 66) 0 dX8_open_66 rfl rfl ?_
      refine s_aload_n (pc := 67) 0 dX8_open_67 rfl rfl ?_
      refine s_geto (pc := 68) F_8 0 rfl o21 dX8_open_68 kf_X8_22 ?_
      refine s_rvB (fun r22 => ?_)
      refine s_grd (fun o23 => ?_)
      refine s_bind (fun q24 hq25 => ?_)
      have hC26 := t_X10_textInForce (l := xl X) (G := xG X) hq25
      refine s_callV (pc := 71) (As := []) (st := [.ref (gh (xG X) + a0)]) (nlt rfl) (q := (RX10, TX10, 15)) rfl rfl o23 cl_X10_textInForce wi_X10_textInForce wl_X10_textInForce km_X8_46 rfl rfl (nle rfl) (nle rfl) (nle rfl) dX8_open_71 hC26 ?_
      show S0 X _ M18 74 [some (.ref (gh (xG X) + a0)), some (.int p1), none] [rv (xG X) q24, .ref (gh (xG X) + a0)] _
      refine s_puto (pc := 74) F_8 3 rfl o21 rfl (fun _ => rfl) (fun _ => rfl) rfl rfl dX8_open_74 kf_X8_30 (fun M27 hM28 => ?_)
      have h29 := le_wR hM28
      have o30 := h29.ok o21
      refine s_aload_n (pc := 77) 0 dX8_open_77 rfl rfl ?_
      refine s_dup (pc := 78) dX8_open_78 rfl ?_
      refine s_geti (pc := 79) F_8 4 rfl o30 dX8_open_79 kf_X8_50 ?_
      refine s_iconst (pc := 82) 1 dX8_open_82 kc_1 ?_
      refine s_iadd (pc := 83) dX8_open_83 ?_
      refine s_puti (pc := 84) F_8 4 rfl o30 rfl rfl rfl dX8_open_84 kf_X8_50 (fun M31 hM32 => ?_)
      have h33 := le_wI hM32
      have o34 := h33.ok o30
      exact s_vret rfl dX8_open_87
    · refine s_icne (pc := 42) 50 dX8_open_42 rfl ?_ ?_
      · exact s_drop (hj11 () Le.rf) (And.intro rfl (And.intro rfl trivial))
      · refine s_iload_n (pc := 45) 2 dX8_open_45 rfl rfl ?_
        refine s_ifeq (pc := 46) 50 dX8_open_46 rfl ?_ ?_
        · exact s_drop (hj11 () Le.rf) (And.intro rfl (And.intro rfl trivial))
        · exact s_vret rfl dX8_open_49
  · refine s_join M (fun s36 : Unit => M) 25 (fun s36 : Unit => [some (.ref (gh (xG X) + a0)), some (.int p1), none]) (fun s36 : Unit => []) (fun s36 hs37 => ?_) (fun j35 hj38 => ?_)
    · show S0 X _ M 25 [some (.ref (gh (xG X) + a0)), some (.int p1), none] [] _
      refine s_iconst (pc := 25) 1 dX8_open_25 kc_1 ?_
      refine s_goto (pc := 26) 30 dX8_open_26 rfl ?_
      exact s_drop (hj5 1 Le.rf) (And.intro rfl (And.intro rfl trivial))
    · refine s_iceq (pc := 5) 25 dX8_open_5 rfl ?_ ?_
      · exact s_drop (hj38 () Le.rf) (And.intro rfl (And.intro rfl trivial))
      · refine s_aload_n (pc := 8) 0 dX8_open_8 rfl rfl ?_
        refine s_geto (pc := 9) F_8 3 rfl o1 dX8_open_9 kf_X8_30 ?_
        refine s_rv ?_ (fun r39 => ?_)
        · refine s_nullT (pc := 12) 25 dX8_open_12 rfl ?_
          exact s_drop (hj38 () Le.rf) (And.intro rfl (And.intro rfl trivial))
        · refine s_nullF (pc := 12) dX8_open_12 ?_
          refine s_aload_n (pc := 15) 0 dX8_open_15 rfl rfl ?_
          refine s_geto (pc := 16) F_8 3 rfl o1 dX8_open_16 kf_X8_30 ?_
          refine s_rvB (fun r40 => ?_)
          refine s_grd (fun o41 => ?_)
          refine s_geti (pc := 19) F_9 4 rfl o41 dX8_open_19 kf_X8_34 ?_
          refine s_ifne (pc := 22) 29 dX8_open_22 rfl ?_ ?_
          · refine s_iconst (pc := 29) 0 dX8_open_29 kc_0 ?_
            exact s_drop (hj5 0 Le.rf) (And.intro rfl (And.intro rfl trivial))
          · exact s_drop (hj38 () Le.rf) (And.intro rfl (And.intro rfl trivial))
set_option maxRecDepth 100000 in
set_option maxHeartbeats 8000000 in
noncomputable def f_X9_kept (M : Mem) (a0 : Nat) : Option (Mem × Nat) :=
  bv (nO M 9 5) (fun M1 => grd (okO M1 9 a0) (Option.bind (f_X9_init M1 (mn M) (mI M1 a0 2) (mI M1 a0 3)) (fun q6 => Option.bind (mR q6 a0 0) (fun r12 => Option.bind (mR q6 (mn M) 0) (fun r13 => grd (okO q6 14 r12) (grd (okO q6 14 r13) (grd (cpok 0 ((mI q6 a0 2) * 6) (mL q6 r12)) (grd (cpok 0 ((mI q6 a0 2) * 6) (mL q6 r13)) (bv (cpI q6 r12 0 r13 0 ((mI q6 a0 2) * 6)) (fun M18 => Option.bind (mR M18 a0 1) (fun r23 => Option.bind (mR M18 (mn M) 1) (fun r24 => grd (okO M18 14 r23) (grd (okO M18 14 r24) (grd (cpok 0 (mI M18 a0 3) (mL M18 r23)) (grd (cpok 0 (mI M18 a0 3) (mL M18 r24)) (bv (cpI M18 r23 0 r24 0 (mI M18 a0 3)) (fun M29 => bv (wI M29 (mn M) 2 (mI M29 a0 2)) (fun M34 => bv (wI M34 (mn M) 3 (mI M34 a0 3)) (fun M39 => grd (pb (mI M39 a0 4)) (bv (wI M39 (mn M) 4 (mI M39 a0 4)) (fun M44 => some (M44, (mn M)))))))))))))))))))))))
abbrev Y_X9_kept : Sta := (RX9, "kept", cX9_kept, 2, (some (.object "DishLines$Text")), 2)
set_option maxRecDepth 100000 in
set_option maxHeartbeats 8000000 in
theorem t_X9_kept {l : Launch} {G : Gh} {M : Mem} {a0 : Nat} {q : Mem × Nat} (h : f_X9_kept M a0 = some q) : Ctr l G yX9_kept Y_X9_kept M [.ref (gh G + a0)] q.1 (some (.ref (gh G + q.2))) := by
  refine Ctr.of (Y := Y_X9_kept) (L := [some (.ref (gh G + a0)), none]) (t := Option.bind (f_X9_kept M a0) (fun q => some (q.1, some (.ref (gh G + q.2))))) (by decide) rfl rfl (nle rfl) (Lof_in 1 _ rfl) (fun X hG hl => ?_) (by rw [h]; rfl)
  subst hG
  subst hl
  unfold f_X9_kept
  refine s_new (pc := 0) F_9 kk_X9_9 dX9_kept_0 (fun M1 hM2 => ?_)
  have h3 := le_nO hM2
  have o4 := ok_nO hM2
  refine s_dup (pc := 3) dX9_kept_3 rfl ?_
  refine s_aload_n (pc := 4) 0 dX9_kept_4 rfl rfl ?_
  refine s_grd (fun o5 => ?_)
  refine s_geti (pc := 5) F_9 2 rfl o5 dX9_kept_5 kf_X9_18 ?_
  refine s_aload_n (pc := 8) 0 dX9_kept_8 rfl rfl ?_
  refine s_geti (pc := 9) F_9 3 rfl o5 dX9_kept_9 kf_X9_22 ?_
  refine s_bind (fun q6 hq7 => ?_)
  have hC8 := t_X9_init (l := xl X) (G := xG X) hq7
  refine s_callI (pc := 12) (As := [.int (mI M1 a0 2), .int (mI M1 a0 3)]) (st := [.ref (gh (xG X) + (mn M))]) rfl rfl cl_X9_init wi_X9_init km_X9_25 rfl rfl (nle rfl) (nle rfl) (nle rfl) dX9_kept_12 hC8 ?_
  have h9 := hC8.1 X
  have o10 := h9.ok o4
  have o11 := h9.ok o5
  show S0 X _ q6 15 [some (.ref (gh (xG X) + a0)), none] [.ref (gh (xG X) + (mn M))] _
  refine s_astore_n (pc := 15) 1 dX9_kept_15 rfl (nlt rfl) rfl (L' := [some (.ref (gh (xG X) + a0)), some (.ref (gh (xG X) + (mn M)))]) rfl ?_
  refine s_aload_n (pc := 16) 0 dX9_kept_16 rfl rfl ?_
  refine s_geto (pc := 17) F_9 0 rfl o11 dX9_kept_17 kf_X9_11 ?_
  refine s_rvB (fun r12 => ?_)
  refine s_iconst (pc := 20) 0 dX9_kept_20 kc_0 ?_
  refine s_aload_n (pc := 21) 1 dX9_kept_21 rfl rfl ?_
  refine s_geto (pc := 22) F_9 0 rfl o10 dX9_kept_22 kf_X9_11 ?_
  refine s_rvB (fun r13 => ?_)
  refine s_iconst (pc := 25) 0 dX9_kept_25 kc_0 ?_
  refine s_aload_n (pc := 26) 0 dX9_kept_26 rfl rfl ?_
  refine s_geti (pc := 27) F_9 2 rfl o11 dX9_kept_27 kf_X9_18 ?_
  refine s_bipush (pc := 30) 6 dX9_kept_30 kb_6 ?_
  refine s_imul (pc := 32) dX9_kept_32 ?_
  refine s_grd (fun o14 => ?_)
  refine s_grd (fun o15 => ?_)
  refine s_grd (fun g16 => ?_)
  refine s_grd (fun g17 => ?_)
  refine s_copyi (pc := 33) o14 o15 g16 g17 cpyW km_X9_28 (nle rfl) (nle rfl) dX9_kept_33 (fun M18 hM19 => ?_)
  have h20 := le_cI hM19
  have o21 := h20.ok o10
  have o22 := h20.ok o11
  refine s_aload_n (pc := 36) 0 dX9_kept_36 rfl rfl ?_
  refine s_geto (pc := 37) F_9 1 rfl o22 dX9_kept_37 kf_X9_15 ?_
  refine s_rvB (fun r23 => ?_)
  refine s_iconst (pc := 40) 0 dX9_kept_40 kc_0 ?_
  refine s_aload_n (pc := 41) 1 dX9_kept_41 rfl rfl ?_
  refine s_geto (pc := 42) F_9 1 rfl o21 dX9_kept_42 kf_X9_15 ?_
  refine s_rvB (fun r24 => ?_)
  refine s_iconst (pc := 45) 0 dX9_kept_45 kc_0 ?_
  refine s_aload_n (pc := 46) 0 dX9_kept_46 rfl rfl ?_
  refine s_geti (pc := 47) F_9 3 rfl o22 dX9_kept_47 kf_X9_22 ?_
  refine s_grd (fun o25 => ?_)
  refine s_grd (fun o26 => ?_)
  refine s_grd (fun g27 => ?_)
  refine s_grd (fun g28 => ?_)
  refine s_copyi (pc := 50) o25 o26 g27 g28 cpyW km_X9_28 (nle rfl) (nle rfl) dX9_kept_50 (fun M29 hM30 => ?_)
  have h31 := le_cI hM30
  have o32 := h31.ok o21
  have o33 := h31.ok o22
  refine s_aload_n (pc := 53) 1 dX9_kept_53 rfl rfl ?_
  refine s_aload_n (pc := 54) 0 dX9_kept_54 rfl rfl ?_
  refine s_geti (pc := 55) F_9 2 rfl o33 dX9_kept_55 kf_X9_18 ?_
  refine s_puti (pc := 58) F_9 2 rfl o32 rfl rfl rfl dX9_kept_58 kf_X9_18 (fun M34 hM35 => ?_)
  have h36 := le_wI hM35
  have o37 := h36.ok o32
  have o38 := h36.ok o33
  refine s_aload_n (pc := 61) 1 dX9_kept_61 rfl rfl ?_
  refine s_aload_n (pc := 62) 0 dX9_kept_62 rfl rfl ?_
  refine s_geti (pc := 63) F_9 3 rfl o38 dX9_kept_63 kf_X9_22 ?_
  refine s_puti (pc := 66) F_9 3 rfl o37 rfl rfl rfl dX9_kept_66 kf_X9_22 (fun M39 hM40 => ?_)
  have h41 := le_wI hM40
  have o42 := h41.ok o37
  have o43 := h41.ok o38
  refine s_aload_n (pc := 69) 1 dX9_kept_69 rfl rfl ?_
  refine s_aload_n (pc := 70) 0 dX9_kept_70 rfl rfl ?_
  refine s_geti (pc := 71) F_9 4 rfl o43 dX9_kept_71 kf_X9_34 ?_
  refine s_grd (fun g47 => ?_)
  refine s_puti (pc := 74) F_9 4 rfl o42 rfl g47.1 g47.2 dX9_kept_74 kf_X9_34 (fun M44 hM45 => ?_)
  have h46 := le_wI hM45
  have o48 := h46.ok o42
  have o49 := h46.ok o43
  refine s_aload_n (pc := 77) 1 dX9_kept_77 rfl rfl ?_
  exact s_aret rfl (Or.inl ⟨_, rfl⟩) ref_or dX9_kept_78
set_option maxRecDepth 100000 in
set_option maxHeartbeats 8000000 in
noncomputable def f_X9_open (M : Mem) (a0 : Nat) (p1 : Int32) : Option Mem :=
  grd (okO M 9 a0) (bv (wI M a0 2 ((mI M a0 2) + 1)) (fun M2 => Option.bind (f_X9_set M2 a0 0 p1) (fun q6 => Option.bind (f_X9_set q6 a0 1 1) (fun q11 => Option.bind (loopO (σ := Mem × Int32) (ρ := Mem) (fun s16 => if 6 ≤ s16.2 then (some (.inr s16.1)) else (Option.bind (f_X9_set s16.1 a0 s16.2 (-1)) (fun q25 => bv (s16.2 + 1 : Int32) (fun x30 => some (.inl (q25, x30)))))) (q11, 2)) (fun (x23 : Mem) => some x23)))))
abbrev Y_X9_open : Sta := (RX9, "open", cX9_open, 3, none, 2)
set_option maxRecDepth 100000 in
set_option maxHeartbeats 8000000 in
theorem t_X9_open {l : Launch} {G : Gh} {M : Mem} {a0 : Nat} {p1 : Int32} {q : Mem} (h : f_X9_open M a0 p1 = some q) : Ctr l G yX9_open Y_X9_open M [.ref (gh G + a0), .int p1] q (none) := by
  refine Ctr.of (Y := Y_X9_open) (L := [some (.ref (gh G + a0)), some (.int p1), none]) (t := Option.bind (f_X9_open M a0 p1) (fun q => some (q, (none : Option Value)))) (by decide) rfl rfl (nle rfl) (Lof_in 1 _ rfl) (fun X hG hl => ?_) (by rw [h]; rfl)
  subst hG
  subst hl
  unfold f_X9_open
  refine s_aload_n (pc := 0) 0 dX9_open_0 rfl rfl ?_
  refine s_dup (pc := 1) dX9_open_1 rfl ?_
  refine s_grd (fun o1 => ?_)
  refine s_geti (pc := 2) F_9 2 rfl o1 dX9_open_2 kf_X9_18 ?_
  refine s_iconst (pc := 5) 1 dX9_open_5 kc_1 ?_
  refine s_iadd (pc := 6) dX9_open_6 ?_
  refine s_puti (pc := 7) F_9 2 rfl o1 rfl rfl rfl dX9_open_7 kf_X9_18 (fun M2 hM3 => ?_)
  have h4 := le_wI hM3
  have o5 := h4.ok o1
  refine s_aload_n (pc := 10) 0 dX9_open_10 rfl rfl ?_
  refine s_iconst (pc := 11) 0 dX9_open_11 kc_0 ?_
  refine s_iload_n (pc := 12) 1 dX9_open_12 rfl rfl ?_
  refine s_bind (fun q6 hq7 => ?_)
  have hC8 := t_X9_set (l := xl X) (G := xG X) hq7
  refine s_callV (pc := 13) (As := [.int 0, .int p1]) (st := []) (nlt rfl) (q := (RX9, TX9, 5)) rfl rfl o5 cl_X9_set wi_X9_set wl_X9_set km_X9_38 rfl rfl (nle rfl) (nle rfl) (nle rfl) dX9_open_13 hC8 ?_
  have h9 := hC8.1 X
  have o10 := h9.ok o5
  show S0 X _ q6 16 [some (.ref (gh (xG X) + a0)), some (.int p1), none] [] _
  refine s_aload_n (pc := 16) 0 dX9_open_16 rfl rfl ?_
  refine s_iconst (pc := 17) 1 dX9_open_17 kc_1 ?_
  refine s_iconst (pc := 18) 1 dX9_open_18 kc_1 ?_
  refine s_bind (fun q11 hq12 => ?_)
  have hC13 := t_X9_set (l := xl X) (G := xG X) hq12
  refine s_callV (pc := 19) (As := [.int 1, .int 1]) (st := []) (nlt rfl) (q := (RX9, TX9, 5)) rfl rfl o10 cl_X9_set wi_X9_set wl_X9_set km_X9_38 rfl rfl (nle rfl) (nle rfl) (nle rfl) dX9_open_19 hC13 ?_
  have h14 := hC13.1 X
  have o15 := h14.ok o10
  show S0 X _ q11 22 [some (.ref (gh (xG X) + a0)), some (.int p1), none] [] _
  refine s_iconst (pc := 22) 2 dX9_open_22 kc_2 ?_
  refine s_istore_n (pc := 23) 2 dX9_open_23 rfl (nlt rfl) rfl (L' := [some (.ref (gh (xG X) + a0)), some (.int p1), some (.int 2)]) rfl ?_
  refine s_drop (L' := [some (.ref (gh (xG X) + a0)), none, some (.int 2)]) ?_ (And.intro rfl (And.intro rfl trivial))
  refine s_loop1 q11 (fun s16 : Mem × Int32 => s16.1) (fun s16 : Mem × Int32 => [some (.ref (gh (xG X) + a0)), none, some (.int s16.2)]) (fun x23 : Mem => x23) 42 (fun x23 : Mem => [none, none, none]) (fun x23 hx24 => ?_) (fun T18 R20 hT19 hR21 s16 hs17 => ?_) (q11, 2) Le.rf
  · show S0 X _ x23 42 [none, none, none] [] _
    exact s_vret rfl dX9_open_42
  · show S0 X _ s16.1 24 [some (.ref (gh (xG X) + a0)), none, some (.int s16.2)] [] _
    have o22 := hs17.ok o15
    refine s_iload_n (pc := 24) 2 dX9_open_24 rfl rfl ?_
    refine s_bipush (pc := 25) 6 dX9_open_25 kb_6 ?_
    refine s_icge (pc := 27) 42 dX9_open_27 rfl ?_ ?_
    · exact s_drop (hR21 s16.1 hs17) trivial
    · refine s_aload_n (pc := 30) 0 dX9_open_30 rfl rfl ?_
      refine s_iload_n (pc := 31) 2 dX9_open_31 rfl rfl ?_
      refine s_iconst (pc := 32) (-1) dX9_open_32 kc_m1 ?_
      refine s_bind (fun q25 hq26 => ?_)
      have hC27 := t_X9_set (l := xl X) (G := xG X) hq26
      refine s_callV (pc := 33) (As := [.int s16.2, .int (-1)]) (st := []) (nlt rfl) (q := (RX9, TX9, 5)) rfl rfl o22 cl_X9_set wi_X9_set wl_X9_set km_X9_38 rfl rfl (nle rfl) (nle rfl) (nle rfl) dX9_open_33 hC27 ?_
      have h28 := hC27.1 X
      have o29 := h28.ok o22
      show S0 X _ q25 36 [some (.ref (gh (xG X) + a0)), none, some (.int s16.2)] [] _
      refine s_iinc (pc := 36) dX9_open_36 rfl (v := s16.2 + 1) (congrArg (fun z : Int32 => s16.2 + z) kc_1) (nlt rfl) rfl (L' := [some (.ref (gh (xG X) + a0)), none, some (.int (s16.2 + 1))]) rfl ?_
      refine s_bv (fun x30 : Int32 => [some (.ref (gh (xG X) + a0)), none, some (.int x30)]) (fun x30 => ?_) rfl
      refine s_goto (pc := 39) 24 dX9_open_39 rfl ?_
      exact s_drop (hT19 (q25, x30) (hs17.tr h28)) (And.intro rfl (And.intro rfl trivial))
set_option maxRecDepth 100000 in
set_option maxHeartbeats 8000000 in
noncomputable def f_X10_add (M : Mem) (a0 : Nat) (p1 : Int32) (p2 : Int32) (p3 : Int32) : Option (Mem × Int32) :=
  grd (okO M 10 a0) (if (mI M a0 8) < 12 then (Option.bind (mR M a0 3) (fun r2 => grd (okO M 14 r2) (grd (vp_in (mI M a0 8) (mL M r2)) (bv (wI M r2 (mI M a0 8).toNatClampNeg p1) (fun M5 => Option.bind (mR M5 a0 4) (fun r9 => grd (okO M5 14 r9) (grd (vp_in (mI M5 a0 8) (mL M5 r9)) (bv (wI M5 r9 (mI M5 a0 8).toNatClampNeg p2) (fun M12 => Option.bind (mR M12 a0 5) (fun r16 => grd (okO M12 14 r16) (grd (vp_in (mI M12 a0 8) (mL M12 r16)) (bv (wI M12 r16 (mI M12 a0 8).toNatClampNeg p3) (fun M19 => Option.bind (mR M19 a0 6) (fun r23 => Option.bind (f_X6_tasteOf p3) (fun q24 => grd (okO M19 14 r23) (grd (vp_in (mI M19 a0 8) (mL M19 r23)) (bv (wI M19 r23 (mI M19 a0 8).toNatClampNeg q24) (fun M29 => bv (wI M29 a0 14 ((mI M29 a0 14) + 1)) (fun M33 => bv (wI M33 a0 8 ((mI M33 a0 8) + 1)) (fun M37 => some (M37, (mI M37 a0 8) - 1))))))))))))))))))))) else (some (M, (-5))))
abbrev Y_X10_add : Sta := (RX10, "add", cX10_add, 4, (some .int), 3)
set_option maxRecDepth 100000 in
set_option maxHeartbeats 8000000 in
theorem t_X10_add {l : Launch} {G : Gh} {M : Mem} {a0 : Nat} {p1 : Int32} {p2 : Int32} {p3 : Int32} {q : Mem × Int32} (h : f_X10_add M a0 p1 p2 p3 = some q) : Ctr l G yX10_add Y_X10_add M [.ref (gh G + a0), .int p1, .int p2, .int p3] q.1 (some (.int q.2)) := by
  refine Ctr.of (Y := Y_X10_add) (L := [some (.ref (gh G + a0)), some (.int p1), some (.int p2), some (.int p3)]) (t := Option.bind (f_X10_add M a0 p1 p2 p3) (fun q => some (q.1, some (.int q.2)))) (by decide) rfl rfl (nle rfl) (Lof_in 0 _ rfl) (fun X hG hl => ?_) (by rw [h]; rfl)
  subst hG
  subst hl
  unfold f_X10_add
  refine s_aload_n (pc := 0) 0 dX10_add_0 rfl rfl ?_
  refine s_grd (fun o1 => ?_)
  refine s_geti (pc := 1) F_10 8 rfl o1 dX10_add_1 kf_X10_55 ?_
  refine s_bipush (pc := 4) 12 dX10_add_4 kb_12 ?_
  refine s_iclt (pc := 6) 12 dX10_add_6 rfl ?_ ?_
  · refine s_aload_n (pc := 12) 0 dX10_add_12 rfl rfl ?_
    refine s_geto (pc := 13) F_10 3 rfl o1 dX10_add_13 kf_X10_21 ?_
    refine s_rvB (fun r2 => ?_)
    refine s_aload_n (pc := 16) 0 dX10_add_16 rfl rfl ?_
    refine s_geti (pc := 17) F_10 8 rfl o1 dX10_add_17 kf_X10_55 ?_
    refine s_iload_n (pc := 20) 1 dX10_add_20 rfl rfl ?_
    refine s_grd (fun o3 => ?_)
    refine s_grd (fun i4 => ?_)
    refine s_iast (pc := 21) o3 i4 dX10_add_21 (fun M5 hM6 => ?_)
    have h7 := le_wI hM6
    have o8 := h7.ok o1
    refine s_aload_n (pc := 22) 0 dX10_add_22 rfl rfl ?_
    refine s_geto (pc := 23) F_10 4 rfl o8 dX10_add_23 kf_X10_24 ?_
    refine s_rvB (fun r9 => ?_)
    refine s_aload_n (pc := 26) 0 dX10_add_26 rfl rfl ?_
    refine s_geti (pc := 27) F_10 8 rfl o8 dX10_add_27 kf_X10_55 ?_
    refine s_iload_n (pc := 30) 2 dX10_add_30 rfl rfl ?_
    refine s_grd (fun o10 => ?_)
    refine s_grd (fun i11 => ?_)
    refine s_iast (pc := 31) o10 i11 dX10_add_31 (fun M12 hM13 => ?_)
    have h14 := le_wI hM13
    have o15 := h14.ok o8
    refine s_aload_n (pc := 32) 0 dX10_add_32 rfl rfl ?_
    refine s_geto (pc := 33) F_10 5 rfl o15 dX10_add_33 kf_X10_27 ?_
    refine s_rvB (fun r16 => ?_)
    refine s_aload_n (pc := 36) 0 dX10_add_36 rfl rfl ?_
    refine s_geti (pc := 37) F_10 8 rfl o15 dX10_add_37 kf_X10_55 ?_
    refine s_iload_n (pc := 40) 3 dX10_add_40 rfl rfl ?_
    refine s_grd (fun o17 => ?_)
    refine s_grd (fun i18 => ?_)
    refine s_iast (pc := 41) o17 i18 dX10_add_41 (fun M19 hM20 => ?_)
    have h21 := le_wI hM20
    have o22 := h21.ok o15
    refine s_aload_n (pc := 42) 0 dX10_add_42 rfl rfl ?_
    refine s_geto (pc := 43) F_10 6 rfl o22 dX10_add_43 kf_X10_30 ?_
    refine s_rvB (fun r23 => ?_)
    refine s_aload_n (pc := 46) 0 dX10_add_46 rfl rfl ?_
    refine s_geti (pc := 47) F_10 8 rfl o22 dX10_add_47 kf_X10_55 ?_
    refine s_iload_n (pc := 50) 3 dX10_add_50 rfl rfl ?_
    refine s_bind (fun q24 hq25 => ?_)
    have hC26 := t_X6_tasteOf (l := xl X) (G := xG X) (M := M19) hq25
    refine s_callS (pc := 51) (As := [.int p3]) (st := [.int (mI M19 a0 8), .ref (gh (xG X) + r23)]) cl_X6_tasteOf wt_X6_tasteOf km_X10_70 rfl rfl (nle rfl) (nle rfl) (nle rfl) dX10_add_51 hC26 ?_
    show S0 X _ M19 54 [some (.ref (gh (xG X) + a0)), some (.int p1), some (.int p2), some (.int p3)] [.int q24, .int (mI M19 a0 8), .ref (gh (xG X) + r23)] _
    refine s_grd (fun o27 => ?_)
    refine s_grd (fun i28 => ?_)
    refine s_iast (pc := 54) o27 i28 dX10_add_54 (fun M29 hM30 => ?_)
    have h31 := le_wI hM30
    have o32 := h31.ok o22
    refine s_aload_n (pc := 55) 0 dX10_add_55 rfl rfl ?_
    refine s_dup (pc := 56) dX10_add_56 rfl ?_
    refine s_geti (pc := 57) F_10 14 rfl o32 dX10_add_57 kf_X10_46 ?_
    refine s_iconst (pc := 60) 1 dX10_add_60 kc_1 ?_
    refine s_iadd (pc := 61) dX10_add_61 ?_
    refine s_puti (pc := 62) F_10 14 rfl o32 rfl rfl rfl dX10_add_62 kf_X10_46 (fun M33 hM34 => ?_)
    have h35 := le_wI hM34
    have o36 := h35.ok o32
    refine s_aload_n (pc := 65) 0 dX10_add_65 rfl rfl ?_
    refine s_dup (pc := 66) dX10_add_66 rfl ?_
    refine s_geti (pc := 67) F_10 8 rfl o36 dX10_add_67 kf_X10_55 ?_
    refine s_iconst (pc := 70) 1 dX10_add_70 kc_1 ?_
    refine s_iadd (pc := 71) dX10_add_71 ?_
    refine s_puti (pc := 72) F_10 8 rfl o36 rfl rfl rfl dX10_add_72 kf_X10_55 (fun M37 hM38 => ?_)
    have h39 := le_wI hM38
    have o40 := h39.ok o36
    refine s_aload_n (pc := 75) 0 dX10_add_75 rfl rfl ?_
    refine s_geti (pc := 76) F_10 8 rfl o40 dX10_add_76 kf_X10_55 ?_
    refine s_iconst (pc := 79) 1 dX10_add_79 kc_1 ?_
    refine s_isub (pc := 80) dX10_add_80 ?_
    exact s_iret rfl dX10_add_81
  · refine s_bipush (pc := 9) (-5) dX10_add_9 kb_m5 ?_
    exact s_iret rfl dX10_add_11
set_option maxRecDepth 100000 in
set_option maxHeartbeats 8000000 in
noncomputable def f_X11_back (M : Mem) (a0 : Nat) (p1 : Int32) : Option (Mem × Int32) :=
  bv (fun (s2 : Unit) => grd (okO M 11 a0) (Option.bind (f_X11_refuse M a0 (-1)) (fun q6 => some (q6.1, q6.2)))) (fun j1 => if p1 < 0 then (j1 ()) else (if p1 < 2 then (grd (okO M 11 a0) (Option.bind (mR M a0 1) (fun r12 => grd (okO M 20 r12) (grd (vp_in p1 (mL M r12)) (ncase (mR M r12 p1.toNatClampNeg) (Option.bind (f_X11_refuse M a0 (-2)) (fun q16 => some (q16.1, q16.2))) (fun r15 => Option.bind (mR M a0 0) (fun r21 => Option.bind (mR M a0 1) (fun r22 => grd (okO M 20 r22) (grd (vp_in p1 (mL M r22)) (Option.bind (mR M r22 p1.toNatClampNeg) (fun r25 => grd (okO M 10 r21) (Option.bind (f_X10_takeFrom M r21 r25) (fun q27 => Option.bind (f_X11_accept q27 a0 0) (fun q32 => some (q32.1, q32.2))))))))))))))) else (j1 ())))
abbrev Y_X11_back : Sta := (RX11, "back", cX11_back, 2, (some .int), 3)
set_option maxRecDepth 100000 in
set_option maxHeartbeats 8000000 in
theorem t_X11_back {l : Launch} {G : Gh} {M : Mem} {a0 : Nat} {p1 : Int32} {q : Mem × Int32} (h : f_X11_back M a0 p1 = some q) : Ctr l G yX11_back Y_X11_back M [.ref (gh G + a0), .int p1] q.1 (some (.int q.2)) := by
  refine Ctr.of (Y := Y_X11_back) (L := [some (.ref (gh G + a0)), some (.int p1)]) (t := Option.bind (f_X11_back M a0 p1) (fun q => some (q.1, some (.int q.2)))) (by decide) rfl rfl (nle rfl) (Lof_in 0 _ rfl) (fun X hG hl => ?_) (by rw [h]; rfl)
  subst hG
  subst hl
  unfold f_X11_back
  refine s_iload_n (pc := 0) 1 dX11_back_0 rfl rfl ?_
  refine s_join M (fun s2 : Unit => M) 9 (fun s2 : Unit => [some (.ref (gh (xG X) + a0)), none]) (fun s2 : Unit => []) (fun s2 hs3 => ?_) (fun j1 hj4 => ?_)
  · show S0 X _ M 9 [some (.ref (gh (xG X) + a0)), none] [] _
    refine s_aload_n (pc := 9) 0 dX11_back_9 rfl rfl ?_
    refine s_iconst (pc := 10) (-1) dX11_back_10 kc_m1 ?_
    refine s_grd (fun o5 => ?_)
    refine s_bind (fun q6 hq7 => ?_)
    have hC8 := t_X11_refuse (l := xl X) (G := xG X) hq7
    refine s_callV (pc := 11) (As := [.int (-1)]) (st := []) (nlt rfl) (q := (RX11, TX11, 16)) rfl rfl o5 cl_X11_refuse wi_X11_refuse wl_X11_refuse km_X11_97 rfl rfl (nle rfl) (nle rfl) (nle rfl) dX11_back_11 hC8 ?_
    have h9 := hC8.1 X
    have o10 := h9.ok o5
    show S0 X _ q6.1 14 [some (.ref (gh (xG X) + a0)), none] [.int q6.2] _
    exact s_iret rfl dX11_back_14
  · refine s_iflt (pc := 1) 9 dX11_back_1 rfl ?_ ?_
    · exact s_drop (hj4 () Le.rf) (And.intro rfl trivial)
    · refine s_iload_n (pc := 4) 1 dX11_back_4 rfl rfl ?_
      refine s_iconst (pc := 5) 2 dX11_back_5 kc_2 ?_
      refine s_iclt (pc := 6) 15 dX11_back_6 rfl ?_ ?_
      · refine s_aload_n (pc := 15) 0 dX11_back_15 rfl rfl ?_
        refine s_grd (fun o11 => ?_)
        refine s_geto (pc := 16) F_11 1 rfl o11 dX11_back_16 kf_X11_16 ?_
        refine s_rvB (fun r12 => ?_)
        refine s_iload_n (pc := 19) 1 dX11_back_19 rfl rfl ?_
        refine s_grd (fun o13 => ?_)
        refine s_grd (fun i14 => ?_)
        refine s_aaldo (pc := 20) 20 (by decide) o13 i14 dX11_back_20 ?_
        refine s_rv ?_ (fun r15 => ?_)
        · refine s_nonnullF (pc := 21) dX11_back_21 ?_
          refine s_aload_n (pc := 24) 0 dX11_back_24 rfl rfl ?_
          refine s_bipush (pc := 25) (-2) dX11_back_25 kb_m2 ?_
          refine s_bind (fun q16 hq17 => ?_)
          have hC18 := t_X11_refuse (l := xl X) (G := xG X) hq17
          refine s_callV (pc := 27) (As := [.int (-2)]) (st := []) (nlt rfl) (q := (RX11, TX11, 16)) rfl rfl o11 cl_X11_refuse wi_X11_refuse wl_X11_refuse km_X11_97 rfl rfl (nle rfl) (nle rfl) (nle rfl) dX11_back_27 hC18 ?_
          have h19 := hC18.1 X
          have o20 := h19.ok o11
          show S0 X _ q16.1 30 [some (.ref (gh (xG X) + a0)), some (.int p1)] [.int q16.2] _
          exact s_iret rfl dX11_back_30
        · refine s_nonnullT (pc := 21) 31 dX11_back_21 rfl ?_
          refine s_aload_n (pc := 31) 0 dX11_back_31 rfl rfl ?_
          refine s_geto (pc := 32) F_11 0 rfl o11 dX11_back_32 kf_X11_10 ?_
          refine s_rvB (fun r21 => ?_)
          refine s_aload_n (pc := 35) 0 dX11_back_35 rfl rfl ?_
          refine s_geto (pc := 36) F_11 1 rfl o11 dX11_back_36 kf_X11_16 ?_
          refine s_rvB (fun r22 => ?_)
          refine s_iload_n (pc := 39) 1 dX11_back_39 rfl rfl ?_
          refine s_grd (fun o23 => ?_)
          refine s_grd (fun i24 => ?_)
          refine s_aaldo (pc := 40) 20 (by decide) o23 i24 dX11_back_40 ?_
          refine s_rvB (fun r25 => ?_)
          refine s_grd (fun o26 => ?_)
          refine s_bind (fun q27 hq28 => ?_)
          have hC29 := t_X10_takeFrom (l := xl X) (G := xG X) hq28
          refine s_callV (pc := 41) (As := [.ref (gh (xG X) + r25)]) (st := []) (nlt rfl) (q := (RX10, TX10, 15)) rfl rfl o26 cl_X10_takeFrom wi_X10_takeFrom wl_X10_takeFrom km_X11_362 rfl rfl (nle rfl) (nle rfl) (nle rfl) dX11_back_41 hC29 ?_
          have h30 := hC29.1 X
          have o31 := h30.ok o11
          show S0 X _ q27 44 [some (.ref (gh (xG X) + a0)), some (.int p1)] [] _
          refine s_aload_n (pc := 44) 0 dX11_back_44 rfl rfl ?_
          refine s_iconst (pc := 45) 0 dX11_back_45 kc_0 ?_
          refine s_bind (fun q32 hq33 => ?_)
          have hC34 := t_X11_accept (l := xl X) (G := xG X) hq33
          refine s_callV (pc := 46) (As := [.int 0]) (st := []) (nlt rfl) (q := (RX11, TX11, 16)) rfl rfl o31 cl_X11_accept wi_X11_accept wl_X11_accept km_X11_108 rfl rfl (nle rfl) (nle rfl) (nle rfl) dX11_back_46 hC34 ?_
          have h35 := hC34.1 X
          have o36 := h35.ok o31
          show S0 X _ q32.1 49 [some (.ref (gh (xG X) + a0)), some (.int p1)] [.int q32.2] _
          exact s_iret rfl dX11_back_49
      · exact s_drop (hj4 () Le.rf) (And.intro rfl trivial)
