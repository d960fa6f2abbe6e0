set_option maxRecDepth 100000 in
set_option maxHeartbeats 8000000 in
noncomputable def f_X12_areAlike (M : Mem) (a0 : Nat) (p1 : Int32) (p2 : Int32) (p3 : Int32) : Option Int32 :=
  Option.bind (loopO (σ := Int32) (ρ := Unit ⊕ Unit) (fun s1 => if 6 ≤ s1 then (some (.inr (.inl ()))) else (Option.bind (f_X12_isOne p3 s1) (fun q13 => bv (fun (s17 : Unit) => bv (s1 + 1 : Int32) (fun x20 => some (.inl x20))) (fun j16 => if q13 = 0 then (j16 ()) else (grd (okO M 12 a0) (Option.bind (f_X12_fact M a0 p1 2) (fun q22 => Option.bind (f_X12_has a0 q22 s1) (fun q25 => Option.bind (f_X12_fact M a0 p2 2) (fun q28 => Option.bind (f_X12_has a0 q28 s1) (fun q31 => if q25 = q31 then (j16 ()) else (some (.inr (.inr ()))))))))))))) 0) (Sum.elim (fun (x9 : Unit) => some 1) (fun (x11 : Unit) => some 0))
abbrev Y_X12_areAlike : Sta := (RX12, "areAlike", cX12_areAlike, 5, (some .boolean), 2)
set_option maxRecDepth 100000 in
set_option maxHeartbeats 8000000 in
theorem t_X12_areAlike {l : Launch} {G : Gh} {M : Mem} {a0 : Nat} {p1 : Int32} {p2 : Int32} {p3 : Int32} {q : Int32} (h : f_X12_areAlike M a0 p1 p2 p3 = some q) : Ctr l G yX12_areAlike Y_X12_areAlike M [.ref (gh G + a0), .int p1, .int p2, .int p3] M (some (.int q)) := by
  refine Ctr.of (Y := Y_X12_areAlike) (L := [some (.ref (gh G + a0)), some (.int p1), some (.int p2), some (.int p3), none]) (t := Option.bind (f_X12_areAlike M a0 p1 p2 p3) (fun q => some (M, some (.int q)))) (by decide) rfl rfl (nle rfl) (Lof_in 1 _ rfl) (fun X hG hl => ?_) (by rw [h]; rfl)
  subst hG
  subst hl
  unfold f_X12_areAlike
  refine s_iconst (pc := 0) 0 dX12_areAlike_0 kc_0 ?_
  refine s_istore (pc := 1) dX12_areAlike_1 (nlt rfl) rfl (L' := [some (.ref (gh (xG X) + a0)), some (.int p1), some (.int p2), some (.int p3), some (.int 0)]) rfl ?_
  refine s_drop (L' := [some (.ref (gh (xG X) + a0)), some (.int p1), some (.int p2), some (.int p3), some (.int 0)]) ?_ (And.intro rfl (And.intro rfl (And.intro rfl (And.intro rfl (And.intro rfl trivial)))))
  refine s_loop2 M (fun s1 : Int32 => M) (fun s1 : Int32 => [some (.ref (gh (xG X) + a0)), some (.int p1), some (.int p2), some (.int p3), some (.int s1)]) (fun x9 : Unit => M) 54 (fun x9 : Unit => [none, none, none, none, none]) (fun x11 : Unit => M) 46 (fun x11 : Unit => [none, none, none, none, none]) (fun x9 hx10 => ?_) (fun x11 hx12 => ?_) (fun T3 R5 R7 hT4 hR6 hR8 s1 hs2 => ?_) 0 Le.rf
  · show S0 X _ M 54 [none, none, none, none, none] [] _
    refine s_iconst (pc := 54) 1 dX12_areAlike_54 kc_1 ?_
    exact s_zret rfl rfl dX12_areAlike_55
  · show S0 X _ M 46 [none, none, none, none, none] [] _
    refine s_iconst (pc := 46) 0 dX12_areAlike_46 kc_0 ?_
    exact s_zret rfl rfl dX12_areAlike_47
  · show S0 X _ M 3 [some (.ref (gh (xG X) + a0)), some (.int p1), some (.int p2), some (.int p3), some (.int s1)] [] _
    refine s_iload (pc := 3) dX12_areAlike_3 rfl ?_
    refine s_bipush (pc := 5) 6 dX12_areAlike_5 kb_6 ?_
    refine s_icge (pc := 7) 54 dX12_areAlike_7 rfl ?_ ?_
    · exact s_drop (hR6 () Le.rf) trivial
    · refine s_iload_n (pc := 10) 3 dX12_areAlike_10 rfl rfl ?_
      refine s_iload (pc := 11) dX12_areAlike_11 rfl ?_
      refine s_bind (fun q13 hq14 => ?_)
      have hC15 := t_X12_isOne (l := xl X) (G := xG X) (M := M) hq14
      refine s_callS (pc := 13) (As := [.int p3, .int s1]) (st := []) cl_X12_isOne wt_X12_isOne km_X12_390 rfl rfl (nle rfl) (nle rfl) (nle rfl) dX12_areAlike_13 hC15 ?_
      show S0 X _ M 16 [some (.ref (gh (xG X) + a0)), some (.int p1), some (.int p2), some (.int p3), some (.int s1)] [.int q13] _
      refine s_join M (fun s17 : Unit => M) 48 (fun s17 : Unit => [some (.ref (gh (xG X) + a0)), some (.int p1), some (.int p2), some (.int p3), some (.int s1)]) (fun s17 : Unit => []) (fun s17 hs18 => ?_) (fun j16 hj19 => ?_)
      · show S0 X _ M 48 [some (.ref (gh (xG X) + a0)), some (.int p1), some (.int p2), some (.int p3), some (.int s1)] [] _
        refine s_iinc (pc := 48) dX12_areAlike_48 rfl (v := s1 + 1) (congrArg (fun z : Int32 => s1 + z) kc_1) (nlt rfl) rfl (L' := [some (.ref (gh (xG X) + a0)), some (.int p1), some (.int p2), some (.int p3), some (.int (s1 + 1))]) rfl ?_
        refine s_bv (fun x20 : Int32 => [some (.ref (gh (xG X) + a0)), some (.int p1), some (.int p2), some (.int p3), some (.int x20)]) (fun x20 => ?_) rfl
        refine s_goto (pc := 51) 3 dX12_areAlike_51 rfl ?_
        exact s_drop (hT4 x20 Le.rf) (And.intro rfl (And.intro rfl (And.intro rfl (And.intro rfl (And.intro rfl trivial)))))
      · refine s_ifeq (pc := 16) 48 dX12_areAlike_16 rfl ?_ ?_
        · exact s_drop (hj19 () Le.rf) (And.intro rfl (And.intro rfl (And.intro rfl (And.intro rfl (And.intro rfl trivial)))))
        · refine s_aload_n (pc := 19) 0 dX12_areAlike_19 rfl rfl ?_
          refine s_aload_n (pc := 20) 0 dX12_areAlike_20 rfl rfl ?_
          refine s_iload_n (pc := 21) 1 dX12_areAlike_21 rfl rfl ?_
          refine s_iconst (pc := 22) 2 dX12_areAlike_22 kc_2 ?_
          refine s_grd (fun o21 => ?_)
          refine s_bind (fun q22 hq23 => ?_)
          have hC24 := t_X12_fact (l := xl X) (G := xG X) hq23
          refine s_callV (pc := 23) (As := [.int p1, .int 2]) (st := [.ref (gh (xG X) + a0)]) (nlt rfl) (q := (RX12, TX12, 59)) rfl rfl o21 cl_X12_fact wi_X12_fact wl_X12_fact km_X12_194 rfl rfl (nle rfl) (nle rfl) (nle rfl) dX12_areAlike_23 hC24 ?_
          show S0 X _ M 26 [some (.ref (gh (xG X) + a0)), some (.int p1), some (.int p2), some (.int p3), some (.int s1)] [.int q22, .ref (gh (xG X) + a0)] _
          refine s_iload (pc := 26) dX12_areAlike_26 rfl ?_
          refine s_bind (fun q25 hq26 => ?_)
          have hC27 := t_X12_has (l := xl X) (G := xG X) (M := M) hq26
          refine s_callV (pc := 28) (As := [.int q22, .int s1]) (st := []) (nlt rfl) (q := (RX12, TX12, 59)) rfl rfl o21 cl_X12_has wi_X12_has wl_X12_has km_X12_159 rfl rfl (nle rfl) (nle rfl) (nle rfl) dX12_areAlike_28 hC27 ?_
          show S0 X _ M 31 [some (.ref (gh (xG X) + a0)), some (.int p1), some (.int p2), some (.int p3), some (.int s1)] [.int q25] _
          refine s_aload_n (pc := 31) 0 dX12_areAlike_31 rfl rfl ?_
          refine s_aload_n (pc := 32) 0 dX12_areAlike_32 rfl rfl ?_
          refine s_iload_n (pc := 33) 2 dX12_areAlike_33 rfl rfl ?_
          refine s_iconst (pc := 34) 2 dX12_areAlike_34 kc_2 ?_
          refine s_bind (fun q28 hq29 => ?_)
          have hC30 := t_X12_fact (l := xl X) (G := xG X) hq29
          refine s_callV (pc := 35) (As := [.int p2, .int 2]) (st := [.ref (gh (xG X) + a0), .int q25]) (nlt rfl) (q := (RX12, TX12, 59)) rfl rfl o21 cl_X12_fact wi_X12_fact wl_X12_fact km_X12_194 rfl rfl (nle rfl) (nle rfl) (nle rfl) dX12_areAlike_35 hC30 ?_
          show S0 X _ M 38 [some (.ref (gh (xG X) + a0)), some (.int p1), some (.int p2), some (.int p3), some (.int s1)] [.int q28, .ref (gh (xG X) + a0), .int q25] _
          refine s_iload (pc := 38) dX12_areAlike_38 rfl ?_
          refine s_bind (fun q31 hq32 => ?_)
          have hC33 := t_X12_has (l := xl X) (G := xG X) (M := M) hq32
          refine s_callV (pc := 40) (As := [.int q28, .int s1]) (st := [.int q25]) (nlt rfl) (q := (RX12, TX12, 59)) rfl rfl o21 cl_X12_has wi_X12_has wl_X12_has km_X12_159 rfl rfl (nle rfl) (nle rfl) (nle rfl) dX12_areAlike_40 hC33 ?_
          show S0 X _ M 43 [some (.ref (gh (xG X) + a0)), some (.int p1), some (.int p2), some (.int p3), some (.int s1)] [.int q31, .int q25] _
          refine s_iceq (pc := 43) 48 dX12_areAlike_43 rfl ?_ ?_
          · exact s_drop (hj19 () Le.rf) (And.intro rfl (And.intro rfl (And.intro rfl (And.intro rfl (And.intro rfl trivial)))))
          · exact s_drop (hR8 () Le.rf) trivial
set_option maxRecDepth 100000 in
set_option maxHeartbeats 8000000 in
noncomputable def f_X12_areHouses (M : Mem) (a0 : Nat) (p1 : Int32) : Option Int32 :=
  grd (okO M 12 a0) (Option.bind (mR M a0 3) (fun r2 => grd (okO M 14 r2) (grd (vp_in 56 (mL M r2)) (Option.bind (f_X12_lies p1 1 ((sl 1 (mI M r2 (56 : Int32).toNatClampNeg)) - 1)) (fun q5 => grd (bl q5) (some q5))))))
abbrev Y_X12_areHouses : Sta := (RX12, "areHouses", cX12_areHouses, 2, (some .boolean), 2)
set_option maxRecDepth 100000 in
set_option maxHeartbeats 8000000 in
theorem t_X12_areHouses {l : Launch} {G : Gh} {M : Mem} {a0 : Nat} {p1 : Int32} {q : Int32} (h : f_X12_areHouses M a0 p1 = some q) : Ctr l G yX12_areHouses Y_X12_areHouses M [.ref (gh G + a0), .int p1] M (some (.int q)) := by
  refine Ctr.of (Y := Y_X12_areHouses) (L := [some (.ref (gh G + a0)), some (.int p1)]) (t := Option.bind (f_X12_areHouses M a0 p1) (fun q => some (M, some (.int q)))) (by decide) rfl rfl (nle rfl) (Lof_in 0 _ rfl) (fun X hG hl => ?_) (by rw [h]; rfl)
  subst hG
  subst hl
  unfold f_X12_areHouses
  refine s_iload_n (pc := 0) 1 dX12_areHouses_0 rfl rfl ?_
  refine s_iconst (pc := 1) 1 dX12_areHouses_1 kc_1 ?_
  refine s_iconst (pc := 2) 1 dX12_areHouses_2 kc_1 ?_
  refine s_aload_n (pc := 3) 0 dX12_areHouses_3 rfl rfl ?_
  refine s_grd (fun o1 => ?_)
  refine s_geto (pc := 4) F_12 3 rfl o1 dX12_areHouses_4 kf_X12_20 ?_
  refine s_rvB (fun r2 => ?_)
  refine s_bipush (pc := 7) 56 dX12_areHouses_7 kb_56 ?_
  refine s_grd (fun o3 => ?_)
  refine s_grd (fun i4 => ?_)
  refine s_iald (pc := 9) o3 i4 dX12_areHouses_9 ?_
  refine s_ishl (pc := 10) dX12_areHouses_10 ?_
  refine s_iconst (pc := 11) 1 dX12_areHouses_11 kc_1 ?_
  refine s_isub (pc := 12) dX12_areHouses_12 ?_
  refine s_bind (fun q5 hq6 => ?_)
  have hC7 := t_X12_lies (l := xl X) (G := xG X) (M := M) hq6
  refine s_callS (pc := 13) (As := [.int p1, .int 1, .int ((sl 1 (mI M r2 (56 : Int32).toNatClampNeg)) - 1)]) (st := []) cl_X12_lies wt_X12_lies km_X12_123 rfl rfl (nle rfl) (nle rfl) (nle rfl) dX12_areHouses_13 hC7 ?_
  show S0 X _ M 16 [some (.ref (gh (xG X) + a0)), some (.int p1)] [.int q5] _
  refine s_grd (fun g8 => ?_)
  exact s_zret rfl g8 dX12_areHouses_16
set_option maxRecDepth 100000 in
set_option maxHeartbeats 8000000 in
noncomputable def f_X12_back (M : Mem) (a0 : Nat) (p1 : Int32) : Option (Mem × Int32) :=
  Option.bind (f_X12_lies p1 0 1) (fun q1 => if q1 = 0 then (grd (okO M 12 a0) (Option.bind (f_X12_refuses M a0 (-1)) (fun q40 => some (q40.1, q40.2)))) else (grd (okO M 12 a0) (Option.bind (mR M a0 5) (fun r5 => grd (okO M 17 r5) (grd (vp_in p1 (mL M r5)) (if (mI M r5 p1.toNatClampNeg) = 0 then (Option.bind (f_X12_refuses M a0 (-2)) (fun q34 => some (q34.1, q34.2))) else (Option.bind (loopO (σ := Mem × Int32) (ρ := Mem) (fun s8 => if 5666 ≤ s8.2 then (some (.inr s8.1)) else (Option.bind (mR s8.1 a0 3) (fun r17 => Option.bind (mR s8.1 a0 4) (fun r18 => grd (okO s8.1 14 r18) (grd (vp_in ((5666 * p1) + s8.2) (mL s8.1 r18)) (grd (okO s8.1 14 r17) (grd (vp_in s8.2 (mL s8.1 r17)) (bv (wI s8.1 r17 s8.2.toNatClampNeg (mI s8.1 r18 ((5666 * p1) + s8.2).toNatClampNeg)) (fun M23 => bv (s8.2 + 1 : Int32) (fun x27 => some (.inl (M23, x27)))))))))))) (M, 0)) (fun (x15 : Mem) => Option.bind (f_X12_good x15 a0 0) (fun q29 => some (q29.1, q29.2))))))))))
abbrev Y_X12_back : Sta := (RX12, "back", cX12_back, 3, (some .int), 2)
set_option maxRecDepth 100000 in
set_option maxHeartbeats 8000000 in
theorem t_X12_back {l : Launch} {G : Gh} {M : Mem} {a0 : Nat} {p1 : Int32} {q : Mem × Int32} (h : f_X12_back M a0 p1 = some q) : Ctr l G yX12_back Y_X12_back M [.ref (gh G + a0), .int p1] q.1 (some (.int q.2)) := by
  refine Ctr.of (Y := Y_X12_back) (L := [some (.ref (gh G + a0)), some (.int p1), none]) (t := Option.bind (f_X12_back M a0 p1) (fun q => some (q.1, some (.int q.2)))) (by decide) rfl rfl (nle rfl) (Lof_in 1 _ rfl) (fun X hG hl => ?_) (by rw [h]; rfl)
  subst hG
  subst hl
  unfold f_X12_back
  refine s_iload_n (pc := 0) 1 dX12_back_0 rfl rfl ?_
  refine s_iconst (pc := 1) 0 dX12_back_1 kc_0 ?_
  refine s_iconst (pc := 2) 1 dX12_back_2 kc_1 ?_
  refine s_bind (fun q1 hq2 => ?_)
  have hC3 := t_X12_lies (l := xl X) (G := xG X) (M := M) hq2
  refine s_callS (pc := 3) (As := [.int p1, .int 0, .int 1]) (st := []) cl_X12_lies wt_X12_lies km_X12_123 rfl rfl (nle rfl) (nle rfl) (nle rfl) dX12_back_3 hC3 ?_
  show S0 X _ M 6 [some (.ref (gh (xG X) + a0)), some (.int p1), none] [.int q1] _
  refine s_ifne (pc := 6) 15 dX12_back_6 rfl ?_ ?_
  · refine s_aload_n (pc := 15) 0 dX12_back_15 rfl rfl ?_
    refine s_grd (fun o4 => ?_)
    refine s_geto (pc := 16) F_12 5 rfl o4 dX12_back_16 kf_X12_26 ?_
    refine s_rvB (fun r5 => ?_)
    refine s_iload_n (pc := 19) 1 dX12_back_19 rfl rfl ?_
    refine s_grd (fun o6 => ?_)
    refine s_grd (fun i7 => ?_)
    refine s_zald (pc := 20) o6 i7 dX12_back_20 ?_
    refine s_ifne (pc := 21) 31 dX12_back_21 rfl ?_ ?_
    · refine s_iconst (pc := 31) 0 dX12_back_31 kc_0 ?_
      refine s_istore_n (pc := 32) 2 dX12_back_32 rfl (nlt rfl) rfl (L' := [some (.ref (gh (xG X) + a0)), some (.int p1), some (.int 0)]) rfl ?_
      refine s_drop (L' := [some (.ref (gh (xG X) + a0)), some (.int p1), some (.int 0)]) ?_ (And.intro rfl (And.intro rfl (And.intro rfl trivial)))
      refine s_loop1 M (fun s8 : Mem × Int32 => s8.1) (fun s8 : Mem × Int32 => [some (.ref (gh (xG X) + a0)), some (.int p1), some (.int s8.2)]) (fun x15 : Mem => x15) 64 (fun x15 : Mem => [some (.ref (gh (xG X) + a0)), none, none]) (fun x15 hx16 => ?_) (fun T10 R12 hT11 hR13 s8 hs9 => ?_) (M, 0) Le.rf
      · show S0 X _ x15 64 [some (.ref (gh (xG X) + a0)), none, none] [] _
        have o28 := hx16.ok o4
        refine s_aload_n (pc := 64) 0 dX12_back_64 rfl rfl ?_
        refine s_iconst (pc := 65) 0 dX12_back_65 kc_0 ?_
        refine s_bind (fun q29 hq30 => ?_)
        have hC31 := t_X12_good (l := xl X) (G := xG X) hq30
        refine s_callV (pc := 66) (As := [.int 0]) (st := []) (nlt rfl) (q := (RX12, TX12, 59)) rfl rfl o28 cl_X12_good wi_X12_good wl_X12_good km_X12_131 rfl rfl (nle rfl) (nle rfl) (nle rfl) dX12_back_66 hC31 ?_
        have h32 := hC31.1 X
        have o33 := h32.ok o28
        show S0 X _ q29.1 69 [some (.ref (gh (xG X) + a0)), none, none] [.int q29.2] _
        exact s_iret rfl dX12_back_69
      · show S0 X _ s8.1 33 [some (.ref (gh (xG X) + a0)), some (.int p1), some (.int s8.2)] [] _
        have o14 := hs9.ok o4
        refine s_iload_n (pc := 33) 2 dX12_back_33 rfl rfl ?_
        refine s_sipush (pc := 34) 5666 dX12_back_34 ks_5666 ?_
        refine s_icge (pc := 37) 64 dX12_back_37 rfl ?_ ?_
        · exact s_drop (hR13 s8.1 hs9) (And.intro rfl trivial)
        · refine s_aload_n (pc := 40) 0 dX12_back_40 rfl rfl ?_
          refine s_geto (pc := 41) F_12 3 rfl o14 dX12_back_41 kf_X12_20 ?_
          refine s_rvB (fun r17 => ?_)
          refine s_iload_n (pc := 44) 2 dX12_back_44 rfl rfl ?_
          refine s_aload_n (pc := 45) 0 dX12_back_45 rfl rfl ?_
          refine s_geto (pc := 46) F_12 4 rfl o14 dX12_back_46 kf_X12_23 ?_
          refine s_rvB (fun r18 => ?_)
          refine s_sipush (pc := 49) 5666 dX12_back_49 ks_5666 ?_
          refine s_iload_n (pc := 52) 1 dX12_back_52 rfl rfl ?_
          refine s_imul (pc := 53) dX12_back_53 ?_
          refine s_iload_n (pc := 54) 2 dX12_back_54 rfl rfl ?_
          refine s_iadd (pc := 55) dX12_back_55 ?_
          refine s_grd (fun o19 => ?_)
          refine s_grd (fun i20 => ?_)
          refine s_iald (pc := 56) o19 i20 dX12_back_56 ?_
          refine s_grd (fun o21 => ?_)
          refine s_grd (fun i22 => ?_)
          refine s_iast (pc := 57) o21 i22 dX12_back_57 (fun M23 hM24 => ?_)
          have h25 := le_wI hM24
          have o26 := h25.ok o14
          refine s_iinc (pc := 58) dX12_back_58 rfl (v := s8.2 + 1) (congrArg (fun z : Int32 => s8.2 + z) kc_1) (nlt rfl) rfl (L' := [some (.ref (gh (xG X) + a0)), some (.int p1), some (.int (s8.2 + 1))]) rfl ?_
          refine s_bv (fun x27 : Int32 => [some (.ref (gh (xG X) + a0)), some (.int p1), some (.int x27)]) (fun x27 => ?_) rfl
          refine s_goto (pc := 61) 33 dX12_back_61 rfl ?_
          exact s_drop (hT11 (M23, x27) (hs9.tr h25)) (And.intro rfl (And.intro rfl (And.intro rfl trivial)))
    · refine s_aload_n (pc := 24) 0 dX12_back_24 rfl rfl ?_
      refine s_bipush (pc := 25) (-2) dX12_back_25 kb_m2 ?_
      refine s_bind (fun q34 hq35 => ?_)
      have hC36 := t_X12_refuses (l := xl X) (G := xG X) hq35
      refine s_callV (pc := 27) (As := [.int (-2)]) (st := []) (nlt rfl) (q := (RX12, TX12, 59)) rfl rfl o4 cl_X12_refuses wi_X12_refuses wl_X12_refuses km_X12_127 rfl rfl (nle rfl) (nle rfl) (nle rfl) dX12_back_27 hC36 ?_
      have h37 := hC36.1 X
      have o38 := h37.ok o4
      show S0 X _ q34.1 30 [some (.ref (gh (xG X) + a0)), some (.int p1), none] [.int q34.2] _
      exact s_iret rfl dX12_back_30
  · refine s_aload_n (pc := 9) 0 dX12_back_9 rfl rfl ?_
    refine s_iconst (pc := 10) (-1) dX12_back_10 kc_m1 ?_
    refine s_grd (fun o39 => ?_)
    refine s_bind (fun q40 hq41 => ?_)
    have hC42 := t_X12_refuses (l := xl X) (G := xG X) hq41
    refine s_callV (pc := 11) (As := [.int (-1)]) (st := []) (nlt rfl) (q := (RX12, TX12, 59)) rfl rfl o39 cl_X12_refuses wi_X12_refuses wl_X12_refuses km_X12_127 rfl rfl (nle rfl) (nle rfl) (nle rfl) dX12_back_11 hC42 ?_
    have h43 := hC42.1 X
    have o44 := h43.ok o39
    show S0 X _ q40.1 14 [some (.ref (gh (xG X) + a0)), some (.int p1), none] [.int q40.2] _
    exact s_iret rfl dX12_back_14
set_option maxRecDepth 100000 in
set_option maxHeartbeats 8000000 in
noncomputable def f_X12_changedBack (M : Mem) (a0 : Nat) (p1 : Int32) : Option Int32 :=
  grd (okO M 12 a0) (Option.bind (f_X12_fact M a0 p1 0) (fun q2 => Option.bind (loopO (σ := Int32 × Int32) (ρ := Unit ⊕ Int32) (fun s5 => if s5.2 = (-1) then (some (.inr (.inl ()))) else (Option.bind (f_X12_fact M a0 s5.2 2) (fun q17 => Option.bind (f_X12_fact M a0 p1 2) (fun q20 => if q17 = q20 then (some (.inr (.inr s5.1))) else (bv (s5.1 + 1 : Int32) (fun x23 => Option.bind (f_X12_fact M a0 s5.2 0) (fun q24 => some (.inl (x23, q24))))))))) (1, q2)) (Sum.elim (fun (x13 : Unit) => some (-1)) (fun (x15 : Int32) => some x15))))
abbrev Y_X12_changedBack : Sta := (RX12, "changedBack", cX12_changedBack, 4, (some .int), 2)
set_option maxRecDepth 100000 in
set_option maxHeartbeats 8000000 in
theorem t_X12_changedBack {l : Launch} {G : Gh} {M : Mem} {a0 : Nat} {p1 : Int32} {q : Int32} (h : f_X12_changedBack M a0 p1 = some q) : Ctr l G yX12_changedBack Y_X12_changedBack M [.ref (gh G + a0), .int p1] M (some (.int q)) := by
  refine Ctr.of (Y := Y_X12_changedBack) (L := [some (.ref (gh G + a0)), some (.int p1), none, none]) (t := Option.bind (f_X12_changedBack M a0 p1) (fun q => some (M, some (.int q)))) (by decide) rfl rfl (nle rfl) (Lof_in 2 _ rfl) (fun X hG hl => ?_) (by rw [h]; rfl)
  subst hG
  subst hl
  unfold f_X12_changedBack
  refine s_iconst (pc := 0) 1 dX12_changedBack_0 kc_1 ?_
  refine s_istore_n (pc := 1) 2 dX12_changedBack_1 rfl (nlt rfl) rfl (L' := [some (.ref (gh (xG X) + a0)), some (.int p1), some (.int 1), none]) rfl ?_
  refine s_aload_n (pc := 2) 0 dX12_changedBack_2 rfl rfl ?_
  refine s_iload_n (pc := 3) 1 dX12_changedBack_3 rfl rfl ?_
  refine s_iconst (pc := 4) 0 dX12_changedBack_4 kc_0 ?_
  refine s_grd (fun o1 => ?_)
  refine s_bind (fun q2 hq3 => ?_)
  have hC4 := t_X12_fact (l := xl X) (G := xG X) hq3
  refine s_callV (pc := 5) (As := [.int p1, .int 0]) (st := []) (nlt rfl) (q := (RX12, TX12, 59)) rfl rfl o1 cl_X12_fact wi_X12_fact wl_X12_fact km_X12_194 rfl rfl (nle rfl) (nle rfl) (nle rfl) dX12_changedBack_5 hC4 ?_
  show S0 X _ M 8 [some (.ref (gh (xG X) + a0)), some (.int p1), some (.int 1), none] [.int q2] _
  refine s_istore_n (pc := 8) 3 dX12_changedBack_8 rfl (nlt rfl) rfl (L' := [some (.ref (gh (xG X) + a0)), some (.int p1), some (.int 1), some (.int q2)]) rfl ?_
  refine s_drop (L' := [some (.ref (gh (xG X) + a0)), some (.int p1), some (.int 1), some (.int q2)]) ?_ (And.intro rfl (And.intro rfl (And.intro rfl (And.intro rfl trivial))))
  refine s_loop2 M (fun s5 : Int32 × Int32 => M) (fun s5 : Int32 × Int32 => [some (.ref (gh (xG X) + a0)), some (.int p1), some (.int s5.1), some (.int s5.2)]) (fun x13 : Unit => M) 44 (fun x13 : Unit => [none, none, none, none]) (fun x15 : Int32 => M) 29 (fun x15 : Int32 => [none, none, some (.int x15), none]) (fun x13 hx14 => ?_) (fun x15 hx16 => ?_) (fun T7 R9 R11 hT8 hR10 hR12 s5 hs6 => ?_) (1, q2) Le.rf
  · show S0 X _ M 44 [none, none, none, none] [] _
    refine s_iconst (pc := 44) (-1) dX12_changedBack_44 kc_m1 ?_
    exact s_iret rfl dX12_changedBack_45
  · show S0 X _ M 29 [none, none, some (.int x15), none] [] _
    refine s_iload_n (pc := 29) 2 dX12_changedBack_29 rfl rfl ?_
    exact s_iret rfl dX12_changedBack_30
  · show S0 X _ M 9 [some (.ref (gh (xG X) + a0)), some (.int p1), some (.int s5.1), some (.int s5.2)] [] _
    refine s_iload_n (pc := 9) 3 dX12_changedBack_9 rfl rfl ?_
    refine s_iconst (pc := 10) (-1) dX12_changedBack_10 kc_m1 ?_
    refine s_iceq (pc := 11) 44 dX12_changedBack_11 rfl ?_ ?_
    · exact s_drop (hR10 () Le.rf) trivial
    · refine s_aload_n (pc := 14) 0 dX12_changedBack_14 rfl rfl ?_
      refine s_iload_n (pc := 15) 3 dX12_changedBack_15 rfl rfl ?_
      refine s_iconst (pc := 16) 2 dX12_changedBack_16 kc_2 ?_
      refine s_bind (fun q17 hq18 => ?_)
      have hC19 := t_X12_fact (l := xl X) (G := xG X) hq18
      refine s_callV (pc := 17) (As := [.int s5.2, .int 2]) (st := []) (nlt rfl) (q := (RX12, TX12, 59)) rfl rfl o1 cl_X12_fact wi_X12_fact wl_X12_fact km_X12_194 rfl rfl (nle rfl) (nle rfl) (nle rfl) dX12_changedBack_17 hC19 ?_
      show S0 X _ M 20 [some (.ref (gh (xG X) + a0)), some (.int p1), some (.int s5.1), some (.int s5.2)] [.int q17] _
      refine s_aload_n (pc := 20) 0 dX12_changedBack_20 rfl rfl ?_
      refine s_iload_n (pc := 21) 1 dX12_changedBack_21 rfl rfl ?_
      refine s_iconst (pc := 22) 2 dX12_changedBack_22 kc_2 ?_
      refine s_bind (fun q20 hq21 => ?_)
      have hC22 := t_X12_fact (l := xl X) (G := xG X) hq21
      refine s_callV (pc := 23) (As := [.int p1, .int 2]) (st := [.int q17]) (nlt rfl) (q := (RX12, TX12, 59)) rfl rfl o1 cl_X12_fact wi_X12_fact wl_X12_fact km_X12_194 rfl rfl (nle rfl) (nle rfl) (nle rfl) dX12_changedBack_23 hC22 ?_
      show S0 X _ M 26 [some (.ref (gh (xG X) + a0)), some (.int p1), some (.int s5.1), some (.int s5.2)] [.int q20, .int q17] _
      refine s_icne (pc := 26) 31 dX12_changedBack_26 rfl ?_ ?_
      · refine s_iinc (pc := 31) dX12_changedBack_31 rfl (v := s5.1 + 1) (congrArg (fun z : Int32 => s5.1 + z) kc_1) (nlt rfl) rfl (L' := [some (.ref (gh (xG X) + a0)), some (.int p1), some (.int (s5.1 + 1)), some (.int s5.2)]) rfl ?_
        refine s_bv (fun x23 : Int32 => [some (.ref (gh (xG X) + a0)), some (.int p1), some (.int x23), some (.int s5.2)]) (fun x23 => ?_) rfl
        refine s_aload_n (pc := 34) 0 dX12_changedBack_34 rfl rfl ?_
        refine s_iload_n (pc := 35) 3 dX12_changedBack_35 rfl rfl ?_
        refine s_iconst (pc := 36) 0 dX12_changedBack_36 kc_0 ?_
        refine s_bind (fun q24 hq25 => ?_)
        have hC26 := t_X12_fact (l := xl X) (G := xG X) hq25
        refine s_callV (pc := 37) (As := [.int s5.2, .int 0]) (st := []) (nlt rfl) (q := (RX12, TX12, 59)) rfl rfl o1 cl_X12_fact wi_X12_fact wl_X12_fact km_X12_194 rfl rfl (nle rfl) (nle rfl) (nle rfl) dX12_changedBack_37 hC26 ?_
        show S0 X _ M 40 [some (.ref (gh (xG X) + a0)), some (.int p1), some (.int x23), some (.int s5.2)] [.int q24] _
        refine s_istore_n (pc := 40) 3 dX12_changedBack_40 rfl (nlt rfl) rfl (L' := [some (.ref (gh (xG X) + a0)), some (.int p1), some (.int x23), some (.int q24)]) rfl ?_
        refine s_goto (pc := 41) 9 dX12_changedBack_41 rfl ?_
        exact s_drop (hT8 (x23, q24) Le.rf) (And.intro rfl (And.intro rfl (And.intro rfl (And.intro rfl trivial))))
      · exact s_drop (hR12 s5.1 Le.rf) (And.intro rfl trivial)
set_option maxRecDepth 100000 in
set_option maxHeartbeats 8000000 in
noncomputable def f_X12_daughters (M : Mem) (a0 : Nat) (p1 : Int32) : Option Int32 :=
  Option.bind (loopO (σ := Int32 × Int32) (ρ := Int32) (fun s1 => grd (okO M 12 a0) (Option.bind (mR M a0 3) (fun r10 => grd (okO M 14 r10) (grd (vp_in 56 (mL M r10)) (if (mI M r10 (56 : Int32).toNatClampNeg) ≤ s1.2 then (some (.inr s1.1)) else (Option.bind (f_X12_fact M a0 s1.2 0) (fun q13 => bv (fun (s17 : Int32) => bv (s1.1 + s17 : Int32) (fun x20 => bv (s1.2 + 1 : Int32) (fun x21 => some (.inl (x20, x21))))) (fun j16 => if q13 = p1 then (j16 1) else (j16 0))))))))) (0, 0)) (fun (x7 : Int32) => some x7)
abbrev Y_X12_daughters : Sta := (RX12, "daughters", cX12_daughters, 4, (some .int), 2)
set_option maxRecDepth 100000 in
set_option maxHeartbeats 8000000 in
theorem t_X12_daughters {l : Launch} {G : Gh} {M : Mem} {a0 : Nat} {p1 : Int32} {q : Int32} (h : f_X12_daughters M a0 p1 = some q) : Ctr l G yX12_daughters Y_X12_daughters M [.ref (gh G + a0), .int p1] M (some (.int q)) := by
  refine Ctr.of (Y := Y_X12_daughters) (L := [some (.ref (gh G + a0)), some (.int p1), none, none]) (t := Option.bind (f_X12_daughters M a0 p1) (fun q => some (M, some (.int q)))) (by decide) rfl rfl (nle rfl) (Lof_in 2 _ rfl) (fun X hG hl => ?_) (by rw [h]; rfl)
  subst hG
  subst hl
  unfold f_X12_daughters
  refine s_iconst (pc := 0) 0 dX12_daughters_0 kc_0 ?_
  refine s_istore_n (pc := 1) 2 dX12_daughters_1 rfl (nlt rfl) rfl (L' := [some (.ref (gh (xG X) + a0)), some (.int p1), some (.int 0), none]) rfl ?_
  refine s_iconst (pc := 2) 0 dX12_daughters_2 kc_0 ?_
  refine s_istore_n (pc := 3) 3 dX12_daughters_3 rfl (nlt rfl) rfl (L' := [some (.ref (gh (xG X) + a0)), some (.int p1), some (.int 0), some (.int 0)]) rfl ?_
  refine s_drop (L' := [some (.ref (gh (xG X) + a0)), some (.int p1), some (.int 0), some (.int 0)]) ?_ (And.intro rfl (And.intro rfl (And.intro rfl (And.intro rfl trivial))))
  refine s_loop1 M (fun s1 : Int32 × Int32 => M) (fun s1 : Int32 × Int32 => [some (.ref (gh (xG X) + a0)), some (.int p1), some (.int s1.1), some (.int s1.2)]) (fun x7 : Int32 => M) 39 (fun x7 : Int32 => [none, none, some (.int x7), none]) (fun x7 hx8 => ?_) (fun T3 R5 hT4 hR6 s1 hs2 => ?_) (0, 0) Le.rf
  · show S0 X _ M 39 [none, none, some (.int x7), none] [] _
    refine s_iload_n (pc := 39) 2 dX12_daughters_39 rfl rfl ?_
    exact s_iret rfl dX12_daughters_40
  · show S0 X _ M 4 [some (.ref (gh (xG X) + a0)), some (.int p1), some (.int s1.1), some (.int s1.2)] [] _
    refine s_iload_n (pc := 4) 3 dX12_daughters_4 rfl rfl ?_
    refine s_aload_n (pc := 5) 0 dX12_daughters_5 rfl rfl ?_
    refine s_grd (fun o9 => ?_)
    refine s_geto (pc := 6) F_12 3 rfl o9 dX12_daughters_6 kf_X12_20 ?_
    refine s_rvB (fun r10 => ?_)
    refine s_bipush (pc := 9) 56 dX12_daughters_9 kb_56 ?_
    refine s_grd (fun o11 => ?_)
    refine s_grd (fun i12 => ?_)
    refine s_iald (pc := 11) o11 i12 dX12_daughters_11 ?_
    refine s_icge (pc := 12) 39 dX12_daughters_12 rfl ?_ ?_
    · exact s_drop (hR6 s1.1 Le.rf) (And.intro rfl trivial)
    · refine s_iload_n (pc := 15) 2 dX12_daughters_15 rfl rfl ?_
      refine s_aload_n (pc := 16) 0 dX12_daughters_16 rfl rfl ?_
      refine s_iload_n (pc := 17) 3 dX12_daughters_17 rfl rfl ?_
      refine s_iconst (pc := 18) 0 dX12_daughters_18 kc_0 ?_
      refine s_bind (fun q13 hq14 => ?_)
      have hC15 := t_X12_fact (l := xl X) (G := xG X) hq14
      refine s_callV (pc := 19) (As := [.int s1.2, .int 0]) (st := [.int s1.1]) (nlt rfl) (q := (RX12, TX12, 59)) rfl rfl o9 cl_X12_fact wi_X12_fact wl_X12_fact km_X12_194 rfl rfl (nle rfl) (nle rfl) (nle rfl) dX12_daughters_19 hC15 ?_
      show S0 X _ M 22 [some (.ref (gh (xG X) + a0)), some (.int p1), some (.int s1.1), some (.int s1.2)] [.int q13, .int s1.1] _
      refine s_iload_n (pc := 22) 1 dX12_daughters_22 rfl rfl ?_
      refine s_join M (fun s17 : Int32 => M) 31 (fun s17 : Int32 => [some (.ref (gh (xG X) + a0)), some (.int p1), none, some (.int s1.2)]) (fun s17 : Int32 => [.int s17, .int s1.1]) (fun s17 hs18 => ?_) (fun j16 hj19 => ?_)
      · show S0 X _ M 31 [some (.ref (gh (xG X) + a0)), some (.int p1), none, some (.int s1.2)] [.int s17, .int s1.1] _
        refine s_iadd (pc := 31) dX12_daughters_31 ?_
        refine s_istore_n (pc := 32) 2 dX12_daughters_32 rfl (nlt rfl) rfl (L' := [some (.ref (gh (xG X) + a0)), some (.int p1), some (.int (s1.1 + s17)), some (.int s1.2)]) rfl ?_
        refine s_bv (fun x20 : Int32 => [some (.ref (gh (xG X) + a0)), some (.int p1), some (.int x20), some (.int s1.2)]) (fun x20 => ?_) rfl
        refine s_iinc (pc := 33) dX12_daughters_33 rfl (v := s1.2 + 1) (congrArg (fun z : Int32 => s1.2 + z) kc_1) (nlt rfl) rfl (L' := [some (.ref (gh (xG X) + a0)), some (.int p1), some (.int x20), some (.int (s1.2 + 1))]) rfl ?_
        refine s_bv (fun x21 : Int32 => [some (.ref (gh (xG X) + a0)), some (.int p1), some (.int x20), some (.int x21)]) (fun x21 => ?_) rfl
        refine s_goto (pc := 36) 4 dX12_daughters_36 rfl ?_
        exact s_drop (hT4 (x20, x21) Le.rf) (And.intro rfl (And.intro rfl (And.intro rfl (And.intro rfl trivial))))
      · refine s_icne (pc := 23) 30 dX12_daughters_23 rfl ?_ ?_
        · refine s_iconst (pc := 30) 0 dX12_daughters_30 kc_0 ?_
          exact s_drop (hj19 0 Le.rf) (And.intro rfl (And.intro rfl (And.intro rfl trivial)))
        · refine s_iconst (pc := 26) 1 dX12_daughters_26 kc_1 ?_
          refine s_goto (pc := 27) 31 dX12_daughters_27 rfl ?_
          exact s_drop (hj19 1 Le.rf) (And.intro rfl (And.intro rfl (And.intro rfl trivial)))
set_option maxRecDepth 100000 in
set_option maxHeartbeats 8000000 in
noncomputable def f_X12_drawn (M : Mem) (a0 : Nat) (p1 : Int32) : Option Int32 :=
  grd (okO M 12 a0) (Option.bind (f_X12_lies p1 0 (mI M a0 57)) (fun q2 => if q2 = 0 then (some (-1)) else (Option.bind (mR M a0 56) (fun r5 => grd (okO M 14 r5) (grd (vp_in p1 (mL M r5)) (some (mI M r5 p1.toNatClampNeg)))))))
abbrev Y_X12_drawn : Sta := (RX12, "drawn", cX12_drawn, 2, (some .int), 2)
set_option maxRecDepth 100000 in
set_option maxHeartbeats 8000000 in
theorem t_X12_drawn {l : Launch} {G : Gh} {M : Mem} {a0 : Nat} {p1 : Int32} {q : Int32} (h : f_X12_drawn M a0 p1 = some q) : Ctr l G yX12_drawn Y_X12_drawn M [.ref (gh G + a0), .int p1] M (some (.int q)) := by
  refine Ctr.of (Y := Y_X12_drawn) (L := [some (.ref (gh G + a0)), some (.int p1)]) (t := Option.bind (f_X12_drawn M a0 p1) (fun q => some (M, some (.int q)))) (by decide) rfl rfl (nle rfl) (Lof_in 0 _ rfl) (fun X hG hl => ?_) (by rw [h]; rfl)
  subst hG
  subst hl
  unfold f_X12_drawn
  refine s_iload_n (pc := 0) 1 dX12_drawn_0 rfl rfl ?_
  refine s_iconst (pc := 1) 0 dX12_drawn_1 kc_0 ?_
  refine s_aload_n (pc := 2) 0 dX12_drawn_2 rfl rfl ?_
  refine s_grd (fun o1 => ?_)
  refine s_geti (pc := 3) F_12 57 rfl o1 dX12_drawn_3 kf_X12_120 ?_
  refine s_bind (fun q2 hq3 => ?_)
  have hC4 := t_X12_lies (l := xl X) (G := xG X) (M := M) hq3
  refine s_callS (pc := 6) (As := [.int p1, .int 0, .int (mI M a0 57)]) (st := []) cl_X12_lies wt_X12_lies km_X12_123 rfl rfl (nle rfl) (nle rfl) (nle rfl) dX12_drawn_6 hC4 ?_
  show S0 X _ M 9 [some (.ref (gh (xG X) + a0)), some (.int p1)] [.int q2] _
  refine s_ifeq (pc := 9) 21 dX12_drawn_9 rfl ?_ ?_
  · refine s_iconst (pc := 21) (-1) dX12_drawn_21 kc_m1 ?_
    exact s_iret rfl dX12_drawn_22
  · refine s_aload_n (pc := 12) 0 dX12_drawn_12 rfl rfl ?_
    refine s_geto (pc := 13) F_12 56 rfl o1 dX12_drawn_13 kf_X12_117 ?_
    refine s_rvB (fun r5 => ?_)
    refine s_iload_n (pc := 16) 1 dX12_drawn_16 rfl rfl ?_
    refine s_grd (fun o6 => ?_)
    refine s_grd (fun i7 => ?_)
    refine s_iald (pc := 17) o6 i7 dX12_drawn_17 ?_
    refine s_goto (pc := 18) 22 dX12_drawn_18 rfl ?_
    exact s_iret rfl dX12_drawn_22
set_option maxRecDepth 100000 in
set_option maxHeartbeats 8000000 in
noncomputable def f_X12_end (M : Mem) (a0 : Nat) (p1 : Int32) : Option (Mem × Int32) :=
  grd (okO M 12 a0) (Option.bind (f_X12_lies p1 0 (mI M a0 17)) (fun q2 => if q2 = 0 then (some (M, (-1))) else (bv (wI M a0 17 p1) (fun M5 => some (M5, p1)))))
abbrev Y_X12_end : Sta := (RX12, "end", cX12_end, 2, (some .int), 2)
set_option maxRecDepth 100000 in
set_option maxHeartbeats 8000000 in
theorem t_X12_end {l : Launch} {G : Gh} {M : Mem} {a0 : Nat} {p1 : Int32} {q : Mem × Int32} (h : f_X12_end M a0 p1 = some q) : Ctr l G yX12_end Y_X12_end M [.ref (gh G + a0), .int p1] q.1 (some (.int q.2)) := by
  refine Ctr.of (Y := Y_X12_end) (L := [some (.ref (gh G + a0)), some (.int p1)]) (t := Option.bind (f_X12_end M a0 p1) (fun q => some (q.1, some (.int q.2)))) (by decide) rfl rfl (nle rfl) (Lof_in 0 _ rfl) (fun X hG hl => ?_) (by rw [h]; rfl)
  subst hG
  subst hl
  unfold f_X12_end
  refine s_iload_n (pc := 0) 1 dX12_end_0 rfl rfl ?_
  refine s_iconst (pc := 1) 0 dX12_end_1 kc_0 ?_
  refine s_aload_n (pc := 2) 0 dX12_end_2 rfl rfl ?_
  refine s_grd (fun o1 => ?_)
  refine s_geti (pc := 3) F_12 17 rfl o1 dX12_end_3 kf_X12_211 ?_
  refine s_bind (fun q2 hq3 => ?_)
  have hC4 := t_X12_lies (l := xl X) (G := xG X) (M := M) hq3
  refine s_callS (pc := 6) (As := [.int p1, .int 0, .int (mI M a0 17)]) (st := []) cl_X12_lies wt_X12_lies km_X12_123 rfl rfl (nle rfl) (nle rfl) (nle rfl) dX12_end_6 hC4 ?_
  show S0 X _ M 9 [some (.ref (gh (xG X) + a0)), some (.int p1)] [.int q2] _
  refine s_ifne (pc := 9) 14 dX12_end_9 rfl ?_ ?_
  · refine s_aload_n (pc := 14) 0 dX12_end_14 rfl rfl ?_
    refine s_iload_n (pc := 15) 1 dX12_end_15 rfl rfl ?_
    refine s_puti (pc := 16) F_12 17 rfl o1 rfl rfl rfl dX12_end_16 kf_X12_211 (fun M5 hM6 => ?_)
    have h7 := le_wI hM6
    have o8 := h7.ok o1
    refine s_iload_n (pc := 19) 1 dX12_end_19 rfl rfl ?_
    exact s_iret rfl dX12_end_20
  · refine s_iconst (pc := 12) (-1) dX12_end_12 kc_m1 ?_
    exact s_iret rfl dX12_end_13
set_option maxRecDepth 100000 in
set_option maxHeartbeats 8000000 in
noncomputable def f_X12_faults (M : Mem) (a0 : Nat) : Option Mem :=
  grd (okO M 12 a0) (Option.bind (f_X12_fine M a0) (fun q2 => if q2 = 0 then (some M) else (Option.bind (mR M a0 21) (fun r5 => grd (okO M 14 r5) (grd (vp_in (mI M a0 23) (mL M r5)) (bv (wI M a0 25 (mI M r5 (mI M a0 23).toNatClampNeg)) (fun M8 => some M8)))))))
abbrev Y_X12_faults : Sta := (RX12, "faults", cX12_faults, 1, none, 2)
set_option maxRecDepth 100000 in
set_option maxHeartbeats 8000000 in
theorem t_X12_faults {l : Launch} {G : Gh} {M : Mem} {a0 : Nat} {q : Mem} (h : f_X12_faults M a0 = some q) : Ctr l G yX12_faults Y_X12_faults M [.ref (gh G + a0)] q (none) := by
  refine Ctr.of (Y := Y_X12_faults) (L := [some (.ref (gh G + a0))]) (t := Option.bind (f_X12_faults M a0) (fun q => some (q, (none : Option Value)))) (by decide) rfl rfl (nle rfl) (Lof_in 0 _ rfl) (fun X hG hl => ?_) (by rw [h]; rfl)
  subst hG
  subst hl
  unfold f_X12_faults
  refine s_aload_n (pc := 0) 0 dX12_faults_0 rfl rfl ?_
  refine s_grd (fun o1 => ?_)
  refine s_bind (fun q2 hq3 => ?_)
  have hC4 := t_X12_fine (l := xl X) (G := xG X) hq3
  refine s_callV (pc := 1) (As := []) (st := []) (nlt rfl) (q := (RX12, TX12, 59)) rfl rfl o1 cl_X12_fine wi_X12_fine wl_X12_fine km_X12_233 rfl rfl (nle rfl) (nle rfl) (nle rfl) dX12_faults_1 hC4 ?_
  show S0 X _ M 4 [some (.ref (gh (xG X) + a0))] [.int q2] _
  refine s_ifeq (pc := 4) 20 dX12_faults_4 rfl ?_ ?_
  · exact s_vret rfl dX12_faults_20
  · refine s_aload_n (pc := 7) 0 dX12_faults_7 rfl rfl ?_
    refine s_aload_n (pc := 8) 0 dX12_faults_8 rfl rfl ?_
    refine s_geto (pc := 9) F_12 21 rfl o1 dX12_faults_9 kf_X12_58 ?_
    refine s_rvB (fun r5 => ?_)
    refine s_aload_n (pc := 12) 0 dX12_faults_12 rfl rfl ?_
    refine s_geti (pc := 13) F_12 23 rfl o1 dX12_faults_13 kf_X12_237 ?_
    refine s_grd (fun o6 => ?_)
    refine s_grd (fun i7 => ?_)
    refine s_iald (pc := 16) o6 i7 dX12_faults_16 ?_
    refine s_puti (pc := 17) F_12 25 rfl o1 rfl rfl rfl dX12_faults_17 kf_X12_230 (fun M8 hM9 => ?_)
    have h10 := le_wI hM9
    have o11 := h10.ok o1
    exact s_vret rfl dX12_faults_20
set_option maxRecDepth 100000 in
set_option maxHeartbeats 8000000 in
noncomputable def f_X12_force (M : Mem) (a0 : Nat) (p1 : Int32) : Option (Mem × Int32) :=
  grd (okO M 12 a0) (Option.bind (mR M a0 3) (fun r2 => grd (okO M 14 r2) (grd (vp_in 57 (mL M r2)) (Option.bind (f_X12_lies p1 (-1) ((mI M r2 (57 : Int32).toNatClampNeg) - 1)) (fun q5 => if q5 = 0 then (Option.bind (f_X12_refuses M a0 (-2)) (fun q24 => some (q24.1, q24.2))) else (Option.bind (mR M a0 3) (fun r8 => grd (okO M 14 r8) (grd (vp_in 58 (mL M r8)) (bv (mI M r8 (58 : Int32).toNatClampNeg : Int32) (fun x11 => Option.bind (mR M a0 3) (fun r12 => grd (okO M 14 r12) (grd (vp_in 58 (mL M r12)) (bv (wI M r12 (58 : Int32).toNatClampNeg p1) (fun M15 => Option.bind (f_X12_good M15 a0 x11) (fun q19 => some (q19.1, q19.2))))))))))))))))
abbrev Y_X12_force : Sta := (RX12, "force", cX12_force, 3, (some .int), 2)
set_option maxRecDepth 100000 in
set_option maxHeartbeats 8000000 in
theorem t_X12_force {l : Launch} {G : Gh} {M : Mem} {a0 : Nat} {p1 : Int32} {q : Mem × Int32} (h : f_X12_force M a0 p1 = some q) : Ctr l G yX12_force Y_X12_force M [.ref (gh G + a0), .int p1] q.1 (some (.int q.2)) := by
  refine Ctr.of (Y := Y_X12_force) (L := [some (.ref (gh G + a0)), some (.int p1), none]) (t := Option.bind (f_X12_force M a0 p1) (fun q => some (q.1, some (.int q.2)))) (by decide) rfl rfl (nle rfl) (Lof_in 1 _ rfl) (fun X hG hl => ?_) (by rw [h]; rfl)
  subst hG
  subst hl
  unfold f_X12_force
  refine s_iload_n (pc := 0) 1 dX12_force_0 rfl rfl ?_
  refine s_iconst (pc := 1) (-1) dX12_force_1 kc_m1 ?_
  refine s_aload_n (pc := 2) 0 dX12_force_2 rfl rfl ?_
  refine s_grd (fun o1 => ?_)
  refine s_geto (pc := 3) F_12 3 rfl o1 dX12_force_3 kf_X12_20 ?_
  refine s_rvB (fun r2 => ?_)
  refine s_bipush (pc := 6) 57 dX12_force_6 kb_57 ?_
  refine s_grd (fun o3 => ?_)
  refine s_grd (fun i4 => ?_)
  refine s_iald (pc := 8) o3 i4 dX12_force_8 ?_
  refine s_iconst (pc := 9) 1 dX12_force_9 kc_1 ?_
  refine s_isub (pc := 10) dX12_force_10 ?_
  refine s_bind (fun q5 hq6 => ?_)
  have hC7 := t_X12_lies (l := xl X) (G := xG X) (M := M) hq6
  refine s_callS (pc := 11) (As := [.int p1, .int (-1), .int ((mI M r2 (57 : Int32).toNatClampNeg) - 1)]) (st := []) cl_X12_lies wt_X12_lies km_X12_123 rfl rfl (nle rfl) (nle rfl) (nle rfl) dX12_force_11 hC7 ?_
  show S0 X _ M 14 [some (.ref (gh (xG X) + a0)), some (.int p1), none] [.int q5] _
  refine s_ifne (pc := 14) 24 dX12_force_14 rfl ?_ ?_
  · refine s_aload_n (pc := 24) 0 dX12_force_24 rfl rfl ?_
    refine s_geto (pc := 25) F_12 3 rfl o1 dX12_force_25 kf_X12_20 ?_
    refine s_rvB (fun r8 => ?_)
    refine s_bipush (pc := 28) 58 dX12_force_28 kb_58 ?_
    refine s_grd (fun o9 => ?_)
    refine s_grd (fun i10 => ?_)
    refine s_iald (pc := 30) o9 i10 dX12_force_30 ?_
    refine s_istore_n (pc := 31) 2 dX12_force_31 rfl (nlt rfl) rfl (L' := [some (.ref (gh (xG X) + a0)), some (.int p1), some (.int (mI M r8 (58 : Int32).toNatClampNeg))]) rfl ?_
    refine s_bv (fun x11 : Int32 => [some (.ref (gh (xG X) + a0)), some (.int p1), some (.int x11)]) (fun x11 => ?_) rfl
    refine s_aload_n (pc := 32) 0 dX12_force_32 rfl rfl ?_
    refine s_geto (pc := 33) F_12 3 rfl o1 dX12_force_33 kf_X12_20 ?_
    refine s_rvB (fun r12 => ?_)
    refine s_bipush (pc := 36) 58 dX12_force_36 kb_58 ?_
    refine s_iload_n (pc := 38) 1 dX12_force_38 rfl rfl ?_
    refine s_grd (fun o13 => ?_)
    refine s_grd (fun i14 => ?_)
    refine s_iast (pc := 39) o13 i14 dX12_force_39 (fun M15 hM16 => ?_)
    have h17 := le_wI hM16
    have o18 := h17.ok o1
    refine s_aload_n (pc := 40) 0 dX12_force_40 rfl rfl ?_
    refine s_iload_n (pc := 41) 2 dX12_force_41 rfl rfl ?_
    refine s_bind (fun q19 hq20 => ?_)
    have hC21 := t_X12_good (l := xl X) (G := xG X) hq20
    refine s_callV (pc := 42) (As := [.int x11]) (st := []) (nlt rfl) (q := (RX12, TX12, 59)) rfl rfl o18 cl_X12_good wi_X12_good wl_X12_good km_X12_131 rfl rfl (nle rfl) (nle rfl) (nle rfl) dX12_force_42 hC21 ?_
    have h22 := hC21.1 X
    have o23 := h22.ok o18
    show S0 X _ q19.1 45 [some (.ref (gh (xG X) + a0)), some (.int p1), some (.int x11)] [.int q19.2] _
    exact s_iret rfl dX12_force_45
  · refine s_aload_n (pc := 17) 0 dX12_force_17 rfl rfl ?_
    refine s_bipush (pc := 18) (-2) dX12_force_18 kb_m2 ?_
    refine s_bind (fun q24 hq25 => ?_)
    have hC26 := t_X12_refuses (l := xl X) (G := xG X) hq25
    refine s_callV (pc := 20) (As := [.int (-2)]) (st := []) (nlt rfl) (q := (RX12, TX12, 59)) rfl rfl o1 cl_X12_refuses wi_X12_refuses wl_X12_refuses km_X12_127 rfl rfl (nle rfl) (nle rfl) (nle rfl) dX12_force_20 hC26 ?_
    have h27 := hC26.1 X
    have o28 := h27.ok o1
    show S0 X _ q24.1 23 [some (.ref (gh (xG X) + a0)), some (.int p1), none] [.int q24.2] _
    exact s_iret rfl dX12_force_23
set_option maxRecDepth 100000 in
set_option maxHeartbeats 8000000 in
noncomputable def f_X12_image (M : Mem) (a0 : Nat) (p1 : Int32) : Option (Mem × Int32) :=
  Option.bind (f_X12_lies p1 0 1) (fun q1 => if q1 = 0 then (grd (okO M 12 a0) (Option.bind (f_X12_refuses M a0 (-1)) (fun q38 => some (q38.1, q38.2)))) else (Option.bind (loopO (σ := Mem × Int32) (ρ := Mem) (fun s4 => if 5666 ≤ s4.2 then (some (.inr s4.1)) else (grd (okO s4.1 12 a0) (Option.bind (mR s4.1 a0 4) (fun r13 => Option.bind (mR s4.1 a0 3) (fun r14 => grd (okO s4.1 14 r14) (grd (vp_in s4.2 (mL s4.1 r14)) (grd (okO s4.1 14 r13) (grd (vp_in ((5666 * p1) + s4.2) (mL s4.1 r13)) (bv (wI s4.1 r13 ((5666 * p1) + s4.2).toNatClampNeg (mI s4.1 r14 s4.2.toNatClampNeg)) (fun M19 => bv (s4.2 + 1 : Int32) (fun x23 => some (.inl (M19, x23))))))))))))) (M, 0)) (fun (x10 : Mem) => grd (okO x10 12 a0) (Option.bind (mR x10 a0 5) (fun r25 => grd (okO x10 17 r25) (grd (vp_in p1 (mL x10 r25)) (bv (wI x10 r25 p1.toNatClampNeg (vp_nar .boolean 1)) (fun M28 => Option.bind (f_X12_good M28 a0 0) (fun q32 => some (q32.1, q32.2))))))))))
abbrev Y_X12_image : Sta := (RX12, "image", cX12_image, 3, (some .int), 2)
set_option maxRecDepth 100000 in
set_option maxHeartbeats 8000000 in
theorem t_X12_image {l : Launch} {G : Gh} {M : Mem} {a0 : Nat} {p1 : Int32} {q : Mem × Int32} (h : f_X12_image M a0 p1 = some q) : Ctr l G yX12_image Y_X12_image M [.ref (gh G + a0), .int p1] q.1 (some (.int q.2)) := by
  refine Ctr.of (Y := Y_X12_image) (L := [some (.ref (gh G + a0)), some (.int p1), none]) (t := Option.bind (f_X12_image M a0 p1) (fun q => some (q.1, some (.int q.2)))) (by decide) rfl rfl (nle rfl) (Lof_in 1 _ rfl) (fun X hG hl => ?_) (by rw [h]; rfl)
  subst hG
  subst hl
  unfold f_X12_image
  refine s_iload_n (pc := 0) 1 dX12_image_0 rfl rfl ?_
  refine s_iconst (pc := 1) 0 dX12_image_1 kc_0 ?_
  refine s_iconst (pc := 2) 1 dX12_image_2 kc_1 ?_
  refine s_bind (fun q1 hq2 => ?_)
  have hC3 := t_X12_lies (l := xl X) (G := xG X) (M := M) hq2
  refine s_callS (pc := 3) (As := [.int p1, .int 0, .int 1]) (st := []) cl_X12_lies wt_X12_lies km_X12_123 rfl rfl (nle rfl) (nle rfl) (nle rfl) dX12_image_3 hC3 ?_
  show S0 X _ M 6 [some (.ref (gh (xG X) + a0)), some (.int p1), none] [.int q1] _
  refine s_ifne (pc := 6) 15 dX12_image_6 rfl ?_ ?_
  · refine s_iconst (pc := 15) 0 dX12_image_15 kc_0 ?_
    refine s_istore_n (pc := 16) 2 dX12_image_16 rfl (nlt rfl) rfl (L' := [some (.ref (gh (xG X) + a0)), some (.int p1), some (.int 0)]) rfl ?_
    refine s_drop (L' := [some (.ref (gh (xG X) + a0)), some (.int p1), some (.int 0)]) ?_ (And.intro rfl (And.intro rfl (And.intro rfl trivial)))
    refine s_loop1 M (fun s4 : Mem × Int32 => s4.1) (fun s4 : Mem × Int32 => [some (.ref (gh (xG X) + a0)), some (.int p1), some (.int s4.2)]) (fun x10 : Mem => x10) 48 (fun x10 : Mem => [some (.ref (gh (xG X) + a0)), some (.int p1), none]) (fun x10 hx11 => ?_) (fun T6 R8 hT7 hR9 s4 hs5 => ?_) (M, 0) Le.rf
    · show S0 X _ x10 48 [some (.ref (gh (xG X) + a0)), some (.int p1), none] [] _
      refine s_aload_n (pc := 48) 0 dX12_image_48 rfl rfl ?_
      refine s_grd (fun o24 => ?_)
      refine s_geto (pc := 49) F_12 5 rfl o24 dX12_image_49 kf_X12_26 ?_
      refine s_rvB (fun r25 => ?_)
      refine s_iload_n (pc := 52) 1 dX12_image_52 rfl rfl ?_
      refine s_iconst (pc := 53) 1 dX12_image_53 kc_1 ?_
      refine s_grd (fun o26 => ?_)
      refine s_grd (fun i27 => ?_)
      refine s_zast (pc := 54) o26 i27 dX12_image_54 (fun M28 hM29 => ?_)
      have h30 := le_wI hM29
      have o31 := h30.ok o24
      refine s_aload_n (pc := 55) 0 dX12_image_55 rfl rfl ?_
      refine s_iconst (pc := 56) 0 dX12_image_56 kc_0 ?_
      refine s_bind (fun q32 hq33 => ?_)
      have hC34 := t_X12_good (l := xl X) (G := xG X) hq33
      refine s_callV (pc := 57) (As := [.int 0]) (st := []) (nlt rfl) (q := (RX12, TX12, 59)) rfl rfl o31 cl_X12_good wi_X12_good wl_X12_good km_X12_131 rfl rfl (nle rfl) (nle rfl) (nle rfl) dX12_image_57 hC34 ?_
      have h35 := hC34.1 X
      have o36 := h35.ok o31
      show S0 X _ q32.1 60 [some (.ref (gh (xG X) + a0)), some (.int p1), none] [.int q32.2] _
      exact s_iret rfl dX12_image_60
    · show S0 X _ s4.1 17 [some (.ref (gh (xG X) + a0)), some (.int p1), some (.int s4.2)] [] _
      refine s_iload_n (pc := 17) 2 dX12_image_17 rfl rfl ?_
      refine s_sipush (pc := 18) 5666 dX12_image_18 ks_5666 ?_
      refine s_icge (pc := 21) 48 dX12_image_21 rfl ?_ ?_
      · exact s_drop (hR9 s4.1 hs5) (And.intro rfl (And.intro rfl trivial))
      · refine s_aload_n (pc := 24) 0 dX12_image_24 rfl rfl ?_
        refine s_grd (fun o12 => ?_)
        refine s_geto (pc := 25) F_12 4 rfl o12 dX12_image_25 kf_X12_23 ?_
        refine s_rvB (fun r13 => ?_)
        refine s_sipush (pc := 28) 5666 dX12_image_28 ks_5666 ?_
        refine s_iload_n (pc := 31) 1 dX12_image_31 rfl rfl ?_
        refine s_imul (pc := 32) dX12_image_32 ?_
        refine s_iload_n (pc := 33) 2 dX12_image_33 rfl rfl ?_
        refine s_iadd (pc := 34) dX12_image_34 ?_
        refine s_aload_n (pc := 35) 0 dX12_image_35 rfl rfl ?_
        refine s_geto (pc := 36) F_12 3 rfl o12 dX12_image_36 kf_X12_20 ?_
        refine s_rvB (fun r14 => ?_)
        refine s_iload_n (pc := 39) 2 dX12_image_39 rfl rfl ?_
        refine s_grd (fun o15 => ?_)
        refine s_grd (fun i16 => ?_)
        refine s_iald (pc := 40) o15 i16 dX12_image_40 ?_
        refine s_grd (fun o17 => ?_)
        refine s_grd (fun i18 => ?_)
        refine s_iast (pc := 41) o17 i18 dX12_image_41 (fun M19 hM20 => ?_)
        have h21 := le_wI hM20
        have o22 := h21.ok o12
        refine s_iinc (pc := 42) dX12_image_42 rfl (v := s4.2 + 1) (congrArg (fun z : Int32 => s4.2 + z) kc_1) (nlt rfl) rfl (L' := [some (.ref (gh (xG X) + a0)), some (.int p1), some (.int (s4.2 + 1))]) rfl ?_
        refine s_bv (fun x23 : Int32 => [some (.ref (gh (xG X) + a0)), some (.int p1), some (.int x23)]) (fun x23 => ?_) rfl
        refine s_goto (pc := 45) 17 dX12_image_45 rfl ?_
        exact s_drop (hT7 (M19, x23) (hs5.tr h21)) (And.intro rfl (And.intro rfl (And.intro rfl trivial)))
  · refine s_aload_n (pc := 9) 0 dX12_image_9 rfl rfl ?_
    refine s_iconst (pc := 10) (-1) dX12_image_10 kc_m1 ?_
    refine s_grd (fun o37 => ?_)
    refine s_bind (fun q38 hq39 => ?_)
    have hC40 := t_X12_refuses (l := xl X) (G := xG X) hq39
    refine s_callV (pc := 11) (As := [.int (-1)]) (st := []) (nlt rfl) (q := (RX12, TX12, 59)) rfl rfl o37 cl_X12_refuses wi_X12_refuses wl_X12_refuses km_X12_127 rfl rfl (nle rfl) (nle rfl) (nle rfl) dX12_image_11 hC40 ?_
    have h41 := hC40.1 X
    have o42 := h41.ok o37
    show S0 X _ q38.1 14 [some (.ref (gh (xG X) + a0)), some (.int p1), none] [.int q38.2] _
    exact s_iret rfl dX12_image_14
set_option maxRecDepth 100000 in
set_option maxHeartbeats 8000000 in
noncomputable def f_X12_isDish (p0 : Int32) : Option Int32 :=
  Option.bind (f_X12_lies p0 0 66666) (fun q1 => if q1 = 0 then (some 0) else (Option.bind (loopO (σ := Int32) (ρ := Unit ⊕ Unit) (fun s4 => if s4 ≤ 0 then (some (.inr (.inl ()))) else (Option.bind (f_X12_lies (ir s4 10) 1 6) (fun q16 => if q16 = 0 then (some (.inr (.inr ()))) else (bv (s4 / 10 : Int32) (fun x19 => some (.inl x19)))))) p0) (Sum.elim (fun (x12 : Unit) => some 1) (fun (x14 : Unit) => some 0))))
abbrev Y_X12_isDish : Sta := (RX12, "isDish", cX12_isDish, 2, (some .boolean), 2)
set_option maxRecDepth 100000 in
set_option maxHeartbeats 8000000 in
theorem t_X12_isDish {l : Launch} {G : Gh} {M : Mem} {p0 : Int32} {q : Int32} (h : f_X12_isDish p0 = some q) : Ctr l G yX12_isDish Y_X12_isDish M [.int p0] M (some (.int q)) := by
  refine Ctr.of (Y := Y_X12_isDish) (L := [some (.int p0), none]) (t := Option.bind (f_X12_isDish p0) (fun q => some (M, some (.int q)))) (by decide) rfl rfl (nle rfl) (Lof_in 1 _ rfl) (fun X hG hl => ?_) (by rw [h]; rfl)
  subst hG
  subst hl
  unfold f_X12_isDish
  refine s_iload_n (pc := 0) 0 dX12_isDish_0 rfl rfl ?_
  refine s_iconst (pc := 1) 0 dX12_isDish_1 kc_0 ?_
  refine s_ldc (pc := 2) dX12_isDish_2 ki_X12_141 ?_
  refine s_bind (fun q1 hq2 => ?_)
  have hC3 := t_X12_lies (l := xl X) (G := xG X) (M := M) hq2
  refine s_callS (pc := 4) (As := [.int p0, .int 0, .int 66666]) (st := []) cl_X12_lies wt_X12_lies km_X12_123 rfl rfl (nle rfl) (nle rfl) (nle rfl) dX12_isDish_4 hC3 ?_
  show S0 X _ M 7 [some (.int p0), none] [.int q1] _
  refine s_ifne (pc := 7) 12 dX12_isDish_7 rfl ?_ ?_
  · refine s_iload_n (pc := 12) 0 dX12_isDish_12 rfl rfl ?_
    refine s_istore_n (pc := 13) 1 dX12_isDish_13 rfl (nlt rfl) rfl (L' := [some (.int p0), some (.int p0)]) rfl ?_
    refine s_drop (L' := [none, some (.int p0)]) ?_ (And.intro rfl trivial)
    refine s_loop2 M (fun s4 : Int32 => M) (fun s4 : Int32 => [none, some (.int s4)]) (fun x12 : Unit => M) 41 (fun x12 : Unit => [none, none]) (fun x14 : Unit => M) 31 (fun x14 : Unit => [none, none]) (fun x12 hx13 => ?_) (fun x14 hx15 => ?_) (fun T6 R8 R10 hT7 hR9 hR11 s4 hs5 => ?_) p0 Le.rf
    · show S0 X _ M 41 [none, none] [] _
      refine s_iconst (pc := 41) 1 dX12_isDish_41 kc_1 ?_
      exact s_zret rfl rfl dX12_isDish_42
    · show S0 X _ M 31 [none, none] [] _
      refine s_iconst (pc := 31) 0 dX12_isDish_31 kc_0 ?_
      exact s_zret rfl rfl dX12_isDish_32
    · show S0 X _ M 14 [none, some (.int s4)] [] _
      refine s_iload_n (pc := 14) 1 dX12_isDish_14 rfl rfl ?_
      refine s_ifle (pc := 15) 41 dX12_isDish_15 rfl ?_ ?_
      · exact s_drop (hR9 () Le.rf) trivial
      · refine s_iload_n (pc := 18) 1 dX12_isDish_18 rfl rfl ?_
        refine s_bipush (pc := 19) 10 dX12_isDish_19 kb_10 ?_
        refine s_irem (pc := 21) dX12_isDish_21 (by decide) ?_
        refine s_iconst (pc := 22) 1 dX12_isDish_22 kc_1 ?_
        refine s_bipush (pc := 23) 6 dX12_isDish_23 kb_6 ?_
        refine s_bind (fun q16 hq17 => ?_)
        have hC18 := t_X12_lies (l := xl X) (G := xG X) (M := M) hq17
        refine s_callS (pc := 25) (As := [.int (ir s4 10), .int 1, .int 6]) (st := []) cl_X12_lies wt_X12_lies km_X12_123 rfl rfl (nle rfl) (nle rfl) (nle rfl) dX12_isDish_25 hC18 ?_
        show S0 X _ M 28 [none, some (.int s4)] [.int q16] _
        refine s_ifne (pc := 28) 33 dX12_isDish_28 rfl ?_ ?_
        · refine s_iload_n (pc := 33) 1 dX12_isDish_33 rfl rfl ?_
          refine s_bipush (pc := 34) 10 dX12_isDish_34 kb_10 ?_
          refine s_idiv (pc := 36) dX12_isDish_36 (by decide) ?_
          refine s_istore_n (pc := 37) 1 dX12_isDish_37 rfl (nlt rfl) rfl (L' := [none, some (.int (s4 / 10))]) rfl ?_
          refine s_bv (fun x19 : Int32 => [none, some (.int x19)]) (fun x19 => ?_) rfl
          refine s_goto (pc := 38) 14 dX12_isDish_38 rfl ?_
          exact s_drop (hT7 x19 Le.rf) (And.intro rfl trivial)
        · exact s_drop (hR11 () Le.rf) trivial
  · refine s_iconst (pc := 10) 0 dX12_isDish_10 kc_0 ?_
    exact s_zret rfl rfl dX12_isDish_11
set_option maxRecDepth 100000 in
set_option maxHeartbeats 8000000 in
noncomputable def f_X12_isHouse (M : Mem) (a0 : Nat) (p1 : Int32) : Option Int32 :=
  grd (okO M 12 a0) (Option.bind (mR M a0 3) (fun r2 => grd (okO M 14 r2) (grd (vp_in 56 (mL M r2)) (Option.bind (f_X12_lies p1 0 ((mI M r2 (56 : Int32).toNatClampNeg) - 1)) (fun q5 => grd (bl q5) (some q5))))))
abbrev Y_X12_isHouse : Sta := (RX12, "isHouse", cX12_isHouse, 2, (some .boolean), 2)
set_option maxRecDepth 100000 in
set_option maxHeartbeats 8000000 in
theorem t_X12_isHouse {l : Launch} {G : Gh} {M : Mem} {a0 : Nat} {p1 : Int32} {q : Int32} (h : f_X12_isHouse M a0 p1 = some q) : Ctr l G yX12_isHouse Y_X12_isHouse M [.ref (gh G + a0), .int p1] M (some (.int q)) := by
  refine Ctr.of (Y := Y_X12_isHouse) (L := [some (.ref (gh G + a0)), some (.int p1)]) (t := Option.bind (f_X12_isHouse M a0 p1) (fun q => some (M, some (.int q)))) (by decide) rfl rfl (nle rfl) (Lof_in 0 _ rfl) (fun X hG hl => ?_) (by rw [h]; rfl)
  subst hG
  subst hl
  unfold f_X12_isHouse
  refine s_iload_n (pc := 0) 1 dX12_isHouse_0 rfl rfl ?_
  refine s_iconst (pc := 1) 0 dX12_isHouse_1 kc_0 ?_
  refine s_aload_n (pc := 2) 0 dX12_isHouse_2 rfl rfl ?_
  refine s_grd (fun o1 => ?_)
  refine s_geto (pc := 3) F_12 3 rfl o1 dX12_isHouse_3 kf_X12_20 ?_
  refine s_rvB (fun r2 => ?_)
  refine s_bipush (pc := 6) 56 dX12_isHouse_6 kb_56 ?_
  refine s_grd (fun o3 => ?_)
  refine s_grd (fun i4 => ?_)
  refine s_iald (pc := 8) o3 i4 dX12_isHouse_8 ?_
  refine s_iconst (pc := 9) 1 dX12_isHouse_9 kc_1 ?_
  refine s_isub (pc := 10) dX12_isHouse_10 ?_
  refine s_bind (fun q5 hq6 => ?_)
  have hC7 := t_X12_lies (l := xl X) (G := xG X) (M := M) hq6
  refine s_callS (pc := 11) (As := [.int p1, .int 0, .int ((mI M r2 (56 : Int32).toNatClampNeg) - 1)]) (st := []) cl_X12_lies wt_X12_lies km_X12_123 rfl rfl (nle rfl) (nle rfl) (nle rfl) dX12_isHouse_11 hC7 ?_
  show S0 X _ M 14 [some (.ref (gh (xG X) + a0)), some (.int p1)] [.int q5] _
  refine s_grd (fun g8 => ?_)
  exact s_zret rfl g8 dX12_isHouse_14
set_option maxRecDepth 100000 in
set_option maxHeartbeats 8000000 in
noncomputable def f_X12_isPlace (p0 : Int32) : Option Int32 :=
  Option.bind (f_X12_lies p0 0 5) (fun q1 => grd (bl q1) (some q1))
abbrev Y_X12_isPlace : Sta := (RX12, "isPlace", cX12_isPlace, 1, (some .boolean), 2)
set_option maxRecDepth 100000 in
set_option maxHeartbeats 8000000 in
theorem t_X12_isPlace {l : Launch} {G : Gh} {M : Mem} {p0 : Int32} {q : Int32} (h : f_X12_isPlace p0 = some q) : Ctr l G yX12_isPlace Y_X12_isPlace M [.int p0] M (some (.int q)) := by
  refine Ctr.of (Y := Y_X12_isPlace) (L := [some (.int p0)]) (t := Option.bind (f_X12_isPlace p0) (fun q => some (M, some (.int q)))) (by decide) rfl rfl (nle rfl) (Lof_in 0 _ rfl) (fun X hG hl => ?_) (by rw [h]; rfl)
  subst hG
  subst hl
  unfold f_X12_isPlace
  refine s_iload_n (pc := 0) 0 dX12_isPlace_0 rfl rfl ?_
  refine s_iconst (pc := 1) 0 dX12_isPlace_1 kc_0 ?_
  refine s_iconst (pc := 2) 5 dX12_isPlace_2 kc_5 ?_
  refine s_bind (fun q1 hq2 => ?_)
  have hC3 := t_X12_lies (l := xl X) (G := xG X) (M := M) hq2
  refine s_callS (pc := 3) (As := [.int p0, .int 0, .int 5]) (st := []) cl_X12_lies wt_X12_lies km_X12_123 rfl rfl (nle rfl) (nle rfl) (nle rfl) dX12_isPlace_3 hC3 ?_
  show S0 X _ M 6 [some (.int p0)] [.int q1] _
  refine s_grd (fun g4 => ?_)
  exact s_zret rfl g4 dX12_isPlace_6
set_option maxRecDepth 100000 in
set_option maxHeartbeats 8000000 in
noncomputable def f_X12_isPoor (M : Mem) (a0 : Nat) (p1 : Int32) (p2 : Int32) : Option Int32 :=
  Option.bind (loopO (σ := Int32 × Int32) (ρ := Int32 ⊕ Unit) (fun s1 => grd (okO M 12 a0) (Option.bind (mR M a0 3) (fun r14 => grd (okO M 14 r14) (grd (vp_in 56 (mL M r14)) (if (mI M r14 (56 : Int32).toNatClampNeg) ≤ s1.2 then (some (.inr (.inl s1.1))) else (Option.bind (f_X12_fact M a0 s1.2 2) (fun q17 => Option.bind (f_X12_has a0 q17 p2) (fun q20 => bv (fun (s24 : Int32) => bv (fun (s28 : Unit) => bv (fun (s32 : Int32) => bv (s1.2 + 1 : Int32) (fun x35 => some (.inl (s32, x35)))) (fun j31 => bv (fun (s37 : Unit) => j31 1) (fun j36 => if s1.1 = 0 then (if s24 = 0 then (j31 0) else (j36 ())) else (j36 ())))) (fun j27 => if s24 = 0 then (j27 ()) else (Option.bind (f_X12_fact M a0 s1.2 1) (fun q40 => if q40 < p1 then (j27 ()) else (some (.inr (.inr ()))))))) (fun j23 => if q20 ≤ 0 then (j23 0) else (j23 1)))))))))) (0, 0)) (Sum.elim (fun (x9 : Int32) => grd (bl x9) (some x9)) (fun (x11 : Unit) => some 0))
abbrev Y_X12_isPoor : Sta := (RX12, "isPoor", cX12_isPoor, 6, (some .boolean), 2)
set_option maxRecDepth 100000 in
set_option maxHeartbeats 8000000 in
theorem t_X12_isPoor {l : Launch} {G : Gh} {M : Mem} {a0 : Nat} {p1 : Int32} {p2 : Int32} {q : Int32} (h : f_X12_isPoor M a0 p1 p2 = some q) : Ctr l G yX12_isPoor Y_X12_isPoor M [.ref (gh G + a0), .int p1, .int p2] M (some (.int q)) := by
  refine Ctr.of (Y := Y_X12_isPoor) (L := [some (.ref (gh G + a0)), some (.int p1), some (.int p2), none, none, none]) (t := Option.bind (f_X12_isPoor M a0 p1 p2) (fun q => some (M, some (.int q)))) (by decide) rfl rfl (nle rfl) (Lof_in 3 _ rfl) (fun X hG hl => ?_) (by rw [h]; rfl)
  subst hG
  subst hl
  unfold f_X12_isPoor
  refine s_iconst (pc := 0) 0 dX12_isPoor_0 kc_0 ?_
  refine s_istore_n (pc := 1) 3 dX12_isPoor_1 rfl (nlt rfl) rfl (L' := [some (.ref (gh (xG X) + a0)), some (.int p1), some (.int p2), some (.int 0), none, none]) rfl ?_
  refine s_iconst (pc := 2) 0 dX12_isPoor_2 kc_0 ?_
  refine s_istore (pc := 3) dX12_isPoor_3 (nlt rfl) rfl (L' := [some (.ref (gh (xG X) + a0)), some (.int p1), some (.int p2), some (.int 0), some (.int 0), none]) rfl ?_
  refine s_drop (L' := [some (.ref (gh (xG X) + a0)), some (.int p1), some (.int p2), some (.int 0), some (.int 0), none]) ?_ (And.intro rfl (And.intro rfl (And.intro rfl (And.intro rfl (And.intro rfl trivial)))))
  refine s_loop2 M (fun s1 : Int32 × Int32 => M) (fun s1 : Int32 × Int32 => [some (.ref (gh (xG X) + a0)), some (.int p1), some (.int p2), some (.int s1.1), some (.int s1.2), none]) (fun x9 : Int32 => M) 78 (fun x9 : Int32 => [none, none, none, some (.int x9), none, none]) (fun x11 : Unit => M) 55 (fun x11 : Unit => [none, none, none, none, none, none]) (fun x9 hx10 => ?_) (fun x11 hx12 => ?_) (fun T3 R5 R7 hT4 hR6 hR8 s1 hs2 => ?_) (0, 0) Le.rf
  · show S0 X _ M 78 [none, none, none, some (.int x9), none, none] [] _
    refine s_iload_n (pc := 78) 3 dX12_isPoor_78 rfl rfl ?_
    refine s_grd (fun g43 => ?_)
    exact s_zret rfl g43 dX12_isPoor_79
  · show S0 X _ M 55 [none, none, none, none, none, none] [] _
    refine s_iconst (pc := 55) 0 dX12_isPoor_55 kc_0 ?_
    exact s_zret rfl rfl dX12_isPoor_56
  · show S0 X _ M 5 [some (.ref (gh (xG X) + a0)), some (.int p1), some (.int p2), some (.int s1.1), some (.int s1.2), none] [] _
    refine s_iload (pc := 5) dX12_isPoor_5 rfl ?_
    refine s_aload_n (pc := 7) 0 dX12_isPoor_7 rfl rfl ?_
    refine s_grd (fun o13 => ?_)
    refine s_geto (pc := 8) F_12 3 rfl o13 dX12_isPoor_8 kf_X12_20 ?_
    refine s_rvB (fun r14 => ?_)
    refine s_bipush (pc := 11) 56 dX12_isPoor_11 kb_56 ?_
    refine s_grd (fun o15 => ?_)
    refine s_grd (fun i16 => ?_)
    refine s_iald (pc := 13) o15 i16 dX12_isPoor_13 ?_
    refine s_icge (pc := 14) 78 dX12_isPoor_14 rfl ?_ ?_
    · exact s_drop (hR6 s1.1 Le.rf) (And.intro rfl trivial)
    · refine s_aload_n (pc := 17) 0 dX12_isPoor_17 rfl rfl ?_
      refine s_aload_n (pc := 18) 0 dX12_isPoor_18 rfl rfl ?_
      refine s_iload (pc := 19) dX12_isPoor_19 rfl ?_
      refine s_iconst (pc := 21) 2 dX12_isPoor_21 kc_2 ?_
      refine s_bind (fun q17 hq18 => ?_)
      have hC19 := t_X12_fact (l := xl X) (G := xG X) hq18
      refine s_callV (pc := 22) (As := [.int s1.2, .int 2]) (st := [.ref (gh (xG X) + a0)]) (nlt rfl) (q := (RX12, TX12, 59)) rfl rfl o13 cl_X12_fact wi_X12_fact wl_X12_fact km_X12_194 rfl rfl (nle rfl) (nle rfl) (nle rfl) dX12_isPoor_22 hC19 ?_
      show S0 X _ M 25 [some (.ref (gh (xG X) + a0)), some (.int p1), some (.int p2), some (.int s1.1), some (.int s1.2), none] [.int q17, .ref (gh (xG X) + a0)] _
      refine s_iload_n (pc := 25) 2 dX12_isPoor_25 rfl rfl ?_
      refine s_bind (fun q20 hq21 => ?_)
      have hC22 := t_X12_has (l := xl X) (G := xG X) (M := M) hq21
      refine s_callV (pc := 26) (As := [.int q17, .int p2]) (st := []) (nlt rfl) (q := (RX12, TX12, 59)) rfl rfl o13 cl_X12_has wi_X12_has wl_X12_has km_X12_159 rfl rfl (nle rfl) (nle rfl) (nle rfl) dX12_isPoor_26 hC22 ?_
      show S0 X _ M 29 [some (.ref (gh (xG X) + a0)), some (.int p1), some (.int p2), some (.int s1.1), some (.int s1.2), none] [.int q20] _
      refine s_join M (fun s24 : Int32 => M) 37 (fun s24 : Int32 => [some (.ref (gh (xG X) + a0)), some (.int p1), some (.int p2), some (.int s1.1), some (.int s1.2), none]) (fun s24 : Int32 => [.int s24]) (fun s24 hs25 => ?_) (fun j23 hj26 => ?_)
      · show S0 X _ M 37 [some (.ref (gh (xG X) + a0)), some (.int p1), some (.int p2), some (.int s1.1), some (.int s1.2), none] [.int s24] _
        refine s_istore (pc := 37) dX12_isPoor_37 (nlt rfl) rfl (L' := [some (.ref (gh (xG X) + a0)), some (.int p1), some (.int p2), some (.int s1.1), some (.int s1.2), some (.int s24)]) rfl ?_
        refine s_iload (pc := 39) dX12_isPoor_39 rfl ?_
        refine s_join M (fun s28 : Unit => M) 57 (fun s28 : Unit => [some (.ref (gh (xG X) + a0)), some (.int p1), some (.int p2), some (.int s1.1), some (.int s1.2), some (.int s24)]) (fun s28 : Unit => []) (fun s28 hs29 => ?_) (fun j27 hj30 => ?_)
        · show S0 X _ M 57 [some (.ref (gh (xG X) + a0)), some (.int p1), some (.int p2), some (.int s1.1), some (.int s1.2), some (.int s24)] [] _
          refine s_iload_n (pc := 57) 3 dX12_isPoor_57 rfl rfl ?_
          refine s_join M (fun s32 : Int32 => M) 71 (fun s32 : Int32 => [some (.ref (gh (xG X) + a0)), some (.int p1), some (.int p2), none, some (.int s1.2), none]) (fun s32 : Int32 => [.int s32]) (fun s32 hs33 => ?_) (fun j31 hj34 => ?_)
          · show S0 X _ M 71 [some (.ref (gh (xG X) + a0)), some (.int p1), some (.int p2), none, some (.int s1.2), none] [.int s32] _
            refine s_istore_n (pc := 71) 3 dX12_isPoor_71 rfl (nlt rfl) rfl (L' := [some (.ref (gh (xG X) + a0)), some (.int p1), some (.int p2), some (.int s32), some (.int s1.2), none]) rfl ?_
            refine s_iinc (pc := 72) dX12_isPoor_72 rfl (v := s1.2 + 1) (congrArg (fun z : Int32 => s1.2 + z) kc_1) (nlt rfl) rfl (L' := [some (.ref (gh (xG X) + a0)), some (.int p1), some (.int p2), some (.int s32), some (.int (s1.2 + 1)), none]) rfl ?_
            refine s_bv (fun x35 : Int32 => [some (.ref (gh (xG X) + a0)), some (.int p1), some (.int p2), some (.int s32), some (.int x35), none]) (fun x35 => ?_) rfl
            refine s_goto (pc := 75) 5 dX12_isPoor_75 rfl ?_
            exact s_drop (hT4 (s32, x35) Le.rf) (And.intro rfl (And.intro rfl (And.intro rfl (And.intro rfl (And.intro rfl trivial)))))
          · refine s_join M (fun s37 : Unit => M) 66 (fun s37 : Unit => [some (.ref (gh (xG X) + a0)), some (.int p1), some (.int p2), none, some (.int s1.2), none]) (fun s37 : Unit => []) (fun s37 hs38 => ?_) (fun j36 hj39 => ?_)
            · show S0 X _ M 66 [some (.ref (gh (xG X) + a0)), some (.int p1), some (.int p2), none, some (.int s1.2), none] [] _
              refine s_iconst (pc := 66) 1 dX12_isPoor_66 kc_1 ?_
              refine s_goto (pc := 67) 71 dX12_isPoor_67 rfl ?_
              exact s_drop (hj34 1 Le.rf) (And.intro rfl (And.intro rfl (And.intro rfl (And.intro rfl trivial))))
            · refine s_ifne (pc := 58) 66 dX12_isPoor_58 rfl ?_ ?_
              · exact s_drop (hj39 () Le.rf) (And.intro rfl (And.intro rfl (And.intro rfl (And.intro rfl trivial))))
              · refine s_iload (pc := 61) dX12_isPoor_61 rfl ?_
                refine s_ifeq (pc := 63) 70 dX12_isPoor_63 rfl ?_ ?_
                · refine s_iconst (pc := 70) 0 dX12_isPoor_70 kc_0 ?_
                  exact s_drop (hj34 0 Le.rf) (And.intro rfl (And.intro rfl (And.intro rfl (And.intro rfl trivial))))
                · exact s_drop (hj39 () Le.rf) (And.intro rfl (And.intro rfl (And.intro rfl (And.intro rfl trivial))))
        · refine s_ifeq (pc := 41) 57 dX12_isPoor_41 rfl ?_ ?_
          · exact s_drop (hj30 () Le.rf) (And.intro rfl (And.intro rfl (And.intro rfl (And.intro rfl (And.intro rfl (And.intro rfl trivial))))))
          · refine s_aload_n (pc := 44) 0 dX12_isPoor_44 rfl rfl ?_
            refine s_iload (pc := 45) dX12_isPoor_45 rfl ?_
            refine s_iconst (pc := 47) 1 dX12_isPoor_47 kc_1 ?_
            refine s_bind (fun q40 hq41 => ?_)
            have hC42 := t_X12_fact (l := xl X) (G := xG X) hq41
            refine s_callV (pc := 48) (As := [.int s1.2, .int 1]) (st := []) (nlt rfl) (q := (RX12, TX12, 59)) rfl rfl o13 cl_X12_fact wi_X12_fact wl_X12_fact km_X12_194 rfl rfl (nle rfl) (nle rfl) (nle rfl) dX12_isPoor_48 hC42 ?_
            show S0 X _ M 51 [some (.ref (gh (xG X) + a0)), some (.int p1), some (.int p2), some (.int s1.1), some (.int s1.2), some (.int s24)] [.int q40] _
            refine s_iload_n (pc := 51) 1 dX12_isPoor_51 rfl rfl ?_
            refine s_iclt (pc := 52) 57 dX12_isPoor_52 rfl ?_ ?_
            · exact s_drop (hj30 () Le.rf) (And.intro rfl (And.intro rfl (And.intro rfl (And.intro rfl (And.intro rfl (And.intro rfl trivial))))))
            · exact s_drop (hR8 () Le.rf) trivial
      · refine s_ifle (pc := 29) 36 dX12_isPoor_29 rfl ?_ ?_
        · refine s_iconst (pc := 36) 0 dX12_isPoor_36 kc_0 ?_
          exact s_drop (hj26 0 Le.rf) (And.intro rfl (And.intro rfl (And.intro rfl (And.intro rfl (And.intro rfl trivial)))))
        · refine s_iconst (pc := 32) 1 dX12_isPoor_32 kc_1 ?_
          refine s_goto (pc := 33) 37 dX12_isPoor_33 rfl ?_
          exact s_drop (hj26 1 Le.rf) (And.intro rfl (And.intro rfl (And.intro rfl (And.intro rfl (And.intro rfl trivial)))))
set_option maxRecDepth 100000 in
set_option maxHeartbeats 8000000 in
noncomputable def f_X12_isPut (p0 : Int32) (p1 : Int32) (p2 : Int32) : Option Int32 :=
  if p1 = 0 then (Option.bind (f_X12_lies p2 0 9) (fun q8 => grd (bl q8) (some q8))) else (if p1 = 1 then (Option.bind (f_X12_lies p2 0 1) (fun q4 => grd (bl q4) (some q4))) else (if p1 = 2 then (if p2 = p0 then (some 0) else (Option.bind (f_X12_lies p2 (-1) 5) (fun q1 => if q1 = 0 then (some 0) else (some 1)))) else (some 0)))
abbrev Y_X12_isPut : Sta := (RX12, "isPut", cX12_isPut, 3, (some .boolean), 2)
set_option maxRecDepth 100000 in
set_option maxHeartbeats 8000000 in
theorem t_X12_isPut {l : Launch} {G : Gh} {M : Mem} {p0 : Int32} {p1 : Int32} {p2 : Int32} {q : Int32} (h : f_X12_isPut p0 p1 p2 = some q) : Ctr l G yX12_isPut Y_X12_isPut M [.int p0, .int p1, .int p2] M (some (.int q)) := by
  refine Ctr.of (Y := Y_X12_isPut) (L := [some (.int p0), some (.int p1), some (.int p2)]) (t := Option.bind (f_X12_isPut p0 p1 p2) (fun q => some (M, some (.int q)))) (by decide) rfl rfl (nle rfl) (Lof_in 0 _ rfl) (fun X hG hl => ?_) (by rw [h]; rfl)
  subst hG
  subst hl
  unfold f_X12_isPut
  refine s_iload_n (pc := 0) 1 dX12_isPut_0 rfl rfl ?_
  refine s_ifne (pc := 1) 14 dX12_isPut_1 rfl ?_ ?_
  · refine s_iload_n (pc := 14) 1 dX12_isPut_14 rfl rfl ?_
    refine s_iconst (pc := 15) 1 dX12_isPut_15 kc_1 ?_
    refine s_icne (pc := 16) 28 dX12_isPut_16 rfl ?_ ?_
    · refine s_iload_n (pc := 28) 1 dX12_isPut_28 rfl rfl ?_
      refine s_iconst (pc := 29) 2 dX12_isPut_29 kc_2 ?_
      refine s_icne (pc := 30) 51 dX12_isPut_30 rfl ?_ ?_
      · refine s_iconst (pc := 51) 0 dX12_isPut_51 kc_0 ?_
        exact s_zret rfl rfl dX12_isPut_52
      · refine s_iload_n (pc := 33) 2 dX12_isPut_33 rfl rfl ?_
        refine s_iload_n (pc := 34) 0 dX12_isPut_34 rfl rfl ?_
        refine s_iceq (pc := 35) 51 dX12_isPut_35 rfl ?_ ?_
        · refine s_iconst (pc := 51) 0 dX12_isPut_51 kc_0 ?_
          exact s_zret rfl rfl dX12_isPut_52
        · refine s_iload_n (pc := 38) 2 dX12_isPut_38 rfl rfl ?_
          refine s_iconst (pc := 39) (-1) dX12_isPut_39 kc_m1 ?_
          refine s_iconst (pc := 40) 5 dX12_isPut_40 kc_5 ?_
          refine s_bind (fun q1 hq2 => ?_)
          have hC3 := t_X12_lies (l := xl X) (G := xG X) (M := M) hq2
          refine s_callS (pc := 41) (As := [.int p2, .int (-1), .int 5]) (st := []) cl_X12_lies wt_X12_lies km_X12_123 rfl rfl (nle rfl) (nle rfl) (nle rfl) dX12_isPut_41 hC3 ?_
          show S0 X _ M 44 [some (.int p0), some (.int p1), some (.int p2)] [.int q1] _
          refine s_ifeq (pc := 44) 51 dX12_isPut_44 rfl ?_ ?_
          · refine s_iconst (pc := 51) 0 dX12_isPut_51 kc_0 ?_
            exact s_zret rfl rfl dX12_isPut_52
          · refine s_iconst (pc := 47) 1 dX12_isPut_47 kc_1 ?_
            refine s_goto (pc := 48) 52 dX12_isPut_48 rfl ?_
            exact s_zret rfl rfl dX12_isPut_52
    · refine s_iload_n (pc := 19) 2 dX12_isPut_19 rfl rfl ?_
      refine s_iconst (pc := 20) 0 dX12_isPut_20 kc_0 ?_
      refine s_iconst (pc := 21) 1 dX12_isPut_21 kc_1 ?_
      refine s_bind (fun q4 hq5 => ?_)
      have hC6 := t_X12_lies (l := xl X) (G := xG X) (M := M) hq5
      refine s_callS (pc := 22) (As := [.int p2, .int 0, .int 1]) (st := []) cl_X12_lies wt_X12_lies km_X12_123 rfl rfl (nle rfl) (nle rfl) (nle rfl) dX12_isPut_22 hC6 ?_
      show S0 X _ M 25 [some (.int p0), some (.int p1), some (.int p2)] [.int q4] _
      refine s_goto (pc := 25) 52 dX12_isPut_25 rfl ?_
      refine s_grd (fun g7 => ?_)
      exact s_zret rfl g7 dX12_isPut_52
  · refine s_iload_n (pc := 4) 2 dX12_isPut_4 rfl rfl ?_
    refine s_iconst (pc := 5) 0 dX12_isPut_5 kc_0 ?_
    refine s_bipush (pc := 6) 9 dX12_isPut_6 kb_9 ?_
    refine s_bind (fun q8 hq9 => ?_)
    have hC10 := t_X12_lies (l := xl X) (G := xG X) (M := M) hq9
    refine s_callS (pc := 8) (As := [.int p2, .int 0, .int 9]) (st := []) cl_X12_lies wt_X12_lies km_X12_123 rfl rfl (nle rfl) (nle rfl) (nle rfl) dX12_isPut_8 hC10 ?_
    show S0 X _ M 11 [some (.int p0), some (.int p1), some (.int p2)] [.int q8] _
    refine s_goto (pc := 11) 52 dX12_isPut_11 rfl ?_
    refine s_grd (fun g11 => ?_)
    exact s_zret rfl g11 dX12_isPut_52
