set_option maxRecDepth 100000 in
set_option maxHeartbeats 8000000 in
noncomputable def f_X6_lengthOf (p0 : Int32) : Option Int32 :=
  Option.bind (loopO (σ := Int32) (ρ := Int32) (fun s1 => if s1 ≤ 0 then (some (.inr s1)) else (grd (vp_in s1 7) (if (stV s1.toNatClampNeg) ≤ p0 then (some (.inr s1)) else (bv (s1 + (-1) : Int32) (fun x10 => some (.inl x10)))))) 5) (fun (x7 : Int32) => some x7)
abbrev Y_X6_lengthOf : Sta := (RX6, "lengthOf", cX6_lengthOf, 2, (some .int), 1)
set_option maxRecDepth 100000 in
set_option maxHeartbeats 8000000 in
theorem t_X6_lengthOf {l : Launch} {G : Gh} {M : Mem} {p0 : Int32} {q : Int32} (h : f_X6_lengthOf p0 = some q) : Ctr l G yX6_lengthOf Y_X6_lengthOf M [.int p0] M (some (.int q)) := by
  refine Ctr.of (Y := Y_X6_lengthOf) (L := [some (.int p0), none]) (t := Option.bind (f_X6_lengthOf p0) (fun q => some (M, some (.int q)))) (by decide) rfl rfl (nle rfl) (Lof_in 1 _ rfl) (fun X hG hl => ?_) (by rw [h]; rfl)
  subst hG
  subst hl
  unfold f_X6_lengthOf
  refine s_iconst (pc := 0) 5 dX6_lengthOf_0 kc_5 ?_
  refine s_istore_n (pc := 1) 1 dX6_lengthOf_1 rfl (nlt rfl) rfl (L' := [some (.int p0), some (.int 5)]) rfl ?_
  refine s_drop (L' := [some (.int p0), some (.int 5)]) ?_ (And.intro rfl (And.intro rfl trivial))
  refine s_loop1 M (fun s1 : Int32 => M) (fun s1 : Int32 => [some (.int p0), some (.int s1)]) (fun x7 : Int32 => M) 21 (fun x7 : Int32 => [none, some (.int x7)]) (fun x7 hx8 => ?_) (fun T3 R5 hT4 hR6 s1 hs2 => ?_) 5 Le.rf
  · show S0 X _ M 21 [none, some (.int x7)] [] _
    refine s_iload_n (pc := 21) 1 dX6_lengthOf_21 rfl rfl ?_
    exact s_iret rfl dX6_lengthOf_22
  · show S0 X _ M 2 [some (.int p0), some (.int s1)] [] _
    refine s_iload_n (pc := 2) 1 dX6_lengthOf_2 rfl rfl ?_
    refine s_ifle (pc := 3) 21 dX6_lengthOf_3 rfl ?_ ?_
    · exact s_drop (hR6 s1 Le.rf) (And.intro rfl trivial)
    · refine s_iload_n (pc := 6) 0 dX6_lengthOf_6 rfl rfl ?_
      refine s_start (pc := 7) dX6_lengthOf_7 (List.mem_of_getElem? (i := 23) rfl) ?_
      refine s_iload_n (pc := 10) 1 dX6_lengthOf_10 rfl rfl ?_
      refine s_grd (fun i9 => ?_)
      refine s_sti (pc := 11) i9 dX6_lengthOf_11 ?_
      refine s_icge (pc := 12) 21 dX6_lengthOf_12 rfl ?_ ?_
      · exact s_drop (hR6 s1 Le.rf) (And.intro rfl trivial)
      · refine s_iinc (pc := 15) dX6_lengthOf_15 rfl (v := s1 + (-1)) (congrArg (fun z : Int32 => s1 + z) kc_m1) (nlt rfl) rfl (L' := [some (.int p0), some (.int (s1 + (-1)))]) rfl ?_
        refine s_bv (fun x10 : Int32 => [some (.int p0), some (.int x10)]) (fun x10 => ?_) rfl
        refine s_goto (pc := 18) 2 dX6_lengthOf_18 rfl ?_
        exact s_drop (hT4 x10 Le.rf) (And.intro rfl (And.intro rfl trivial))
set_option maxRecDepth 100000 in
set_option maxHeartbeats 8000000 in
noncomputable def f_X6_rankOf (p0 : Int32) : Option Int32 :=
  if p0 < 0 then (some (-1)) else (if p0 ≤ 66666 then (Option.bind (loopO (σ := Int32 × Int32 × Int32 × Int32) (ρ := (Int32 × Int32) ⊕ Unit) (fun s1 => if 5 ≤ s1.2.2.2 then (some (.inr (.inl (s1.2.1, s1.2.2.1)))) else (if s1.1 ≤ 0 then (some (.inr (.inl (s1.2.1, s1.2.2.1)))) else (bv (ir s1.1 10 : Int32) (fun x13 => if x13 < 1 then (some (.inr (.inr ()))) else (if x13 ≤ 6 then (grd (vp_in s1.2.2.2 6) (bv (s1.2.1 + ((x13 - 1) * (pwV s1.2.2.2.toNatClampNeg)) : Int32) (fun x15 => bv (s1.2.2.1 + 1 : Int32) (fun x16 => bv (s1.1 / 10 : Int32) (fun x17 => bv (s1.2.2.2 + 1 : Int32) (fun x18 => some (.inl (x17, x15, x16, x18)))))))) else (some (.inr (.inr ())))))))) (p0, 0, 0, 0)) (Sum.elim (fun (x9 : Int32 × Int32) => grd (vp_in x9.2 7) (some ((stV x9.2.toNatClampNeg) + x9.1))) (fun (x11 : Unit) => some (-1)))) else (some (-1)))
abbrev Y_X6_rankOf : Sta := (RX6, "rankOf", cX6_rankOf, 6, (some .int), 1)
set_option maxRecDepth 100000 in
set_option maxHeartbeats 8000000 in
theorem t_X6_rankOf {l : Launch} {G : Gh} {M : Mem} {p0 : Int32} {q : Int32} (h : f_X6_rankOf p0 = some q) : Ctr l G yX6_rankOf Y_X6_rankOf M [.int p0] M (some (.int q)) := by
  refine Ctr.of (Y := Y_X6_rankOf) (L := [some (.int p0), none, none, none, none, none]) (t := Option.bind (f_X6_rankOf p0) (fun q => some (M, some (.int q)))) (by decide) rfl rfl (nle rfl) (Lof_in 5 _ rfl) (fun X hG hl => ?_) (by rw [h]; rfl)
  subst hG
  subst hl
  unfold f_X6_rankOf
  refine s_iload_n (pc := 0) 0 dX6_rankOf_0 rfl rfl ?_
  refine s_iflt (pc := 1) 10 dX6_rankOf_1 rfl ?_ ?_
  · refine s_iconst (pc := 10) (-1) dX6_rankOf_10 kc_m1 ?_
    exact s_iret rfl dX6_rankOf_11
  · refine s_iload_n (pc := 4) 0 dX6_rankOf_4 rfl rfl ?_
    refine s_ldc (pc := 5) dX6_rankOf_5 ki_X6_18 ?_
    refine s_icle (pc := 7) 12 dX6_rankOf_7 rfl ?_ ?_
    · refine s_iload_n (pc := 12) 0 dX6_rankOf_12 rfl rfl ?_
      refine s_istore_n (pc := 13) 1 dX6_rankOf_13 rfl (nlt rfl) rfl (L' := [some (.int p0), some (.int p0), none, none, none, none]) rfl ?_
      refine s_iconst (pc := 14) 0 dX6_rankOf_14 kc_0 ?_
      refine s_istore_n (pc := 15) 2 dX6_rankOf_15 rfl (nlt rfl) rfl (L' := [some (.int p0), some (.int p0), some (.int 0), none, none, none]) rfl ?_
      refine s_iconst (pc := 16) 0 dX6_rankOf_16 kc_0 ?_
      refine s_istore_n (pc := 17) 3 dX6_rankOf_17 rfl (nlt rfl) rfl (L' := [some (.int p0), some (.int p0), some (.int 0), some (.int 0), none, none]) rfl ?_
      refine s_iconst (pc := 18) 0 dX6_rankOf_18 kc_0 ?_
      refine s_istore (pc := 19) dX6_rankOf_19 (nlt rfl) rfl (L' := [some (.int p0), some (.int p0), some (.int 0), some (.int 0), some (.int 0), none]) rfl ?_
      refine s_drop (L' := [none, some (.int p0), some (.int 0), some (.int 0), some (.int 0), none]) ?_ (And.intro rfl (And.intro rfl (And.intro rfl (And.intro rfl trivial))))
      refine s_loop2 M (fun s1 : Int32 × Int32 × Int32 × Int32 => M) (fun s1 : Int32 × Int32 × Int32 × Int32 => [none, some (.int s1.1), some (.int s1.2.1), some (.int s1.2.2.1), some (.int s1.2.2.2), none]) (fun x9 : Int32 × Int32 => M) 80 (fun x9 : Int32 × Int32 => [none, none, some (.int x9.1), some (.int x9.2), none, none]) (fun x11 : Unit => M) 50 (fun x11 : Unit => [none, none, none, none, none, none]) (fun x9 hx10 => ?_) (fun x11 hx12 => ?_) (fun T3 R5 R7 hT4 hR6 hR8 s1 hs2 => ?_) (p0, 0, 0, 0) Le.rf
      · show S0 X _ M 80 [none, none, some (.int x9.1), some (.int x9.2), none, none] [] _
        refine s_start (pc := 80) dX6_rankOf_80 (List.mem_of_getElem? (i := 23) rfl) ?_
        refine s_iload_n (pc := 83) 3 dX6_rankOf_83 rfl rfl ?_
        refine s_grd (fun i19 => ?_)
        refine s_sti (pc := 84) i19 dX6_rankOf_84 ?_
        refine s_iload_n (pc := 85) 2 dX6_rankOf_85 rfl rfl ?_
        refine s_iadd (pc := 86) dX6_rankOf_86 ?_
        exact s_iret rfl dX6_rankOf_87
      · show S0 X _ M 50 [none, none, none, none, none, none] [] _
        refine s_iconst (pc := 50) (-1) dX6_rankOf_50 kc_m1 ?_
        exact s_iret rfl dX6_rankOf_51
      · show S0 X _ M 21 [none, some (.int s1.1), some (.int s1.2.1), some (.int s1.2.2.1), some (.int s1.2.2.2), none] [] _
        refine s_iload (pc := 21) dX6_rankOf_21 rfl ?_
        refine s_iconst (pc := 23) 5 dX6_rankOf_23 kc_5 ?_
        refine s_icge (pc := 24) 80 dX6_rankOf_24 rfl ?_ ?_
        · exact s_drop (hR6 (s1.2.1, s1.2.2.1) Le.rf) (And.intro rfl (And.intro rfl trivial))
        · refine s_iload_n (pc := 27) 1 dX6_rankOf_27 rfl rfl ?_
          refine s_ifle (pc := 28) 80 dX6_rankOf_28 rfl ?_ ?_
          · exact s_drop (hR6 (s1.2.1, s1.2.2.1) Le.rf) (And.intro rfl (And.intro rfl trivial))
          · refine s_iload_n (pc := 31) 1 dX6_rankOf_31 rfl rfl ?_
            refine s_bipush (pc := 32) 10 dX6_rankOf_32 kb_10 ?_
            refine s_irem (pc := 34) dX6_rankOf_34 (by decide) ?_
            refine s_istore (pc := 35) dX6_rankOf_35 (nlt rfl) rfl (L' := [none, some (.int s1.1), some (.int s1.2.1), some (.int s1.2.2.1), some (.int s1.2.2.2), some (.int (ir s1.1 10))]) rfl ?_
            refine s_bv (fun x13 : Int32 => [none, some (.int s1.1), some (.int s1.2.1), some (.int s1.2.2.1), some (.int s1.2.2.2), some (.int x13)]) (fun x13 => ?_) rfl
            refine s_iload (pc := 37) dX6_rankOf_37 rfl ?_
            refine s_iconst (pc := 39) 1 dX6_rankOf_39 kc_1 ?_
            refine s_iclt (pc := 40) 50 dX6_rankOf_40 rfl ?_ ?_
            · exact s_drop (hR8 () Le.rf) trivial
            · refine s_iload (pc := 43) dX6_rankOf_43 rfl ?_
              refine s_bipush (pc := 45) 6 dX6_rankOf_45 kb_6 ?_
              refine s_icle (pc := 47) 52 dX6_rankOf_47 rfl ?_ ?_
              · refine s_iload_n (pc := 52) 2 dX6_rankOf_52 rfl rfl ?_
                refine s_iload (pc := 53) dX6_rankOf_53 rfl ?_
                refine s_iconst (pc := 55) 1 dX6_rankOf_55 kc_1 ?_
                refine s_isub (pc := 56) dX6_rankOf_56 ?_
                refine s_power (pc := 57) dX6_rankOf_57 (List.mem_of_getElem? (i := 22) rfl) ?_
                refine s_iload (pc := 60) dX6_rankOf_60 rfl ?_
                refine s_grd (fun i14 => ?_)
                refine s_powi (pc := 62) i14 dX6_rankOf_62 ?_
                refine s_imul (pc := 63) dX6_rankOf_63 ?_
                refine s_iadd (pc := 64) dX6_rankOf_64 ?_
                refine s_istore_n (pc := 65) 2 dX6_rankOf_65 rfl (nlt rfl) rfl (L' := [none, some (.int s1.1), some (.int (s1.2.1 + ((x13 - 1) * (pwV s1.2.2.2.toNatClampNeg)))), some (.int s1.2.2.1), some (.int s1.2.2.2), some (.int x13)]) rfl ?_
                refine s_bv (fun x15 : Int32 => [none, some (.int s1.1), some (.int x15), some (.int s1.2.2.1), some (.int s1.2.2.2), some (.int x13)]) (fun x15 => ?_) rfl
                refine s_iinc (pc := 66) dX6_rankOf_66 rfl (v := s1.2.2.1 + 1) (congrArg (fun z : Int32 => s1.2.2.1 + z) kc_1) (nlt rfl) rfl (L' := [none, some (.int s1.1), some (.int x15), some (.int (s1.2.2.1 + 1)), some (.int s1.2.2.2), some (.int x13)]) rfl ?_
                refine s_bv (fun x16 : Int32 => [none, some (.int s1.1), some (.int x15), some (.int x16), some (.int s1.2.2.2), some (.int x13)]) (fun x16 => ?_) rfl
                refine s_iload_n (pc := 69) 1 dX6_rankOf_69 rfl rfl ?_
                refine s_bipush (pc := 70) 10 dX6_rankOf_70 kb_10 ?_
                refine s_idiv (pc := 72) dX6_rankOf_72 (by decide) ?_
                refine s_istore_n (pc := 73) 1 dX6_rankOf_73 rfl (nlt rfl) rfl (L' := [none, some (.int (s1.1 / 10)), some (.int x15), some (.int x16), some (.int s1.2.2.2), some (.int x13)]) rfl ?_
                refine s_bv (fun x17 : Int32 => [none, some (.int x17), some (.int x15), some (.int x16), some (.int s1.2.2.2), some (.int x13)]) (fun x17 => ?_) rfl
                refine s_iinc (pc := 74) dX6_rankOf_74 rfl (v := s1.2.2.2 + 1) (congrArg (fun z : Int32 => s1.2.2.2 + z) kc_1) (nlt rfl) rfl (L' := [none, some (.int x17), some (.int x15), some (.int x16), some (.int (s1.2.2.2 + 1)), some (.int x13)]) rfl ?_
                refine s_bv (fun x18 : Int32 => [none, some (.int x17), some (.int x15), some (.int x16), some (.int x18), some (.int x13)]) (fun x18 => ?_) rfl
                refine s_goto (pc := 77) 21 dX6_rankOf_77 rfl ?_
                exact s_drop (hT4 (x17, x15, x16, x18) Le.rf) (And.intro rfl (And.intro rfl (And.intro rfl (And.intro rfl trivial))))
              · exact s_drop (hR8 () Le.rf) trivial
    · refine s_iconst (pc := 10) (-1) dX6_rankOf_10 kc_m1 ?_
      exact s_iret rfl dX6_rankOf_11
set_option maxRecDepth 100000 in
set_option maxHeartbeats 8000000 in
noncomputable def f_X7_byteAt (M : Mem) (a0 : Nat) (p1 : Int32) : Option Int32 :=
  if p1 < 0 then (some 0) else (grd (okO M 7 a0) (if (mI M a0 4) ≤ p1 then (some 0) else (if 400 ≤ p1 then (some 0) else (Option.bind (mR M a0 0) (fun r2 => grd (okO M 14 r2) (grd (vp_in p1 (mL M r2)) (some (mI M r2 p1.toNatClampNeg))))))))
abbrev Y_X7_byteAt : Sta := (RX7, "byteAt", cX7_byteAt, 2, (some .int), 1)
set_option maxRecDepth 100000 in
set_option maxHeartbeats 8000000 in
theorem t_X7_byteAt {l : Launch} {G : Gh} {M : Mem} {a0 : Nat} {p1 : Int32} {q : Int32} (h : f_X7_byteAt M a0 p1 = some q) : Ctr l G yX7_byteAt Y_X7_byteAt M [.ref (gh G + a0), .int p1] M (some (.int q)) := by
  refine Ctr.of (Y := Y_X7_byteAt) (L := [some (.ref (gh G + a0)), some (.int p1)]) (t := Option.bind (f_X7_byteAt M a0 p1) (fun q => some (M, some (.int q)))) (by decide) rfl rfl (nle rfl) (Lof_in 0 _ rfl) (fun X hG hl => ?_) (by rw [h]; rfl)
  subst hG
  subst hl
  unfold f_X7_byteAt
  refine s_iload_n (pc := 0) 1 dX7_byteAt_0 rfl rfl ?_
  refine s_iflt (pc := 1) 28 dX7_byteAt_1 rfl ?_ ?_
  · refine s_iconst (pc := 28) 0 dX7_byteAt_28 kc_0 ?_
    exact s_iret rfl dX7_byteAt_29
  · refine s_iload_n (pc := 4) 1 dX7_byteAt_4 rfl rfl ?_
    refine s_aload_n (pc := 5) 0 dX7_byteAt_5 rfl rfl ?_
    refine s_grd (fun o1 => ?_)
    refine s_geti (pc := 6) F_7 4 rfl o1 dX7_byteAt_6 kf_X7_34 ?_
    refine s_icge (pc := 9) 28 dX7_byteAt_9 rfl ?_ ?_
    · refine s_iconst (pc := 28) 0 dX7_byteAt_28 kc_0 ?_
      exact s_iret rfl dX7_byteAt_29
    · refine s_iload_n (pc := 12) 1 dX7_byteAt_12 rfl rfl ?_
      refine s_sipush (pc := 13) 400 dX7_byteAt_13 ks_400 ?_
      refine s_icge (pc := 16) 28 dX7_byteAt_16 rfl ?_ ?_
      · refine s_iconst (pc := 28) 0 dX7_byteAt_28 kc_0 ?_
        exact s_iret rfl dX7_byteAt_29
      · refine s_aload_n (pc := 19) 0 dX7_byteAt_19 rfl rfl ?_
        refine s_geto (pc := 20) F_7 0 rfl o1 dX7_byteAt_20 kf_X7_11 ?_
        refine s_rvB (fun r2 => ?_)
        refine s_iload_n (pc := 23) 1 dX7_byteAt_23 rfl rfl ?_
        refine s_grd (fun o3 => ?_)
        refine s_grd (fun i4 => ?_)
        refine s_iald (pc := 24) o3 i4 dX7_byteAt_24 ?_
        refine s_goto (pc := 25) 29 dX7_byteAt_25 rfl ?_
        exact s_iret rfl dX7_byteAt_29
set_option maxRecDepth 100000 in
set_option maxHeartbeats 8000000 in
noncomputable def f_X7_fail (M : Mem) (a0 : Nat) : Option (Mem × Int32) :=
  grd (okO M 7 a0) (Option.bind (mR M a0 2) (fun r2 => grd (okO M 14 r2) (grd (vp_in (mI M a0 7) (mL M r2)) (bv (wI M a0 5 (mI M r2 (mI M a0 7).toNatClampNeg)) (fun M5 => some (M5, 0))))))
abbrev Y_X7_fail : Sta := (RX7, "fail", cX7_fail, 1, (some .boolean), 1)
set_option maxRecDepth 100000 in
set_option maxHeartbeats 8000000 in
theorem t_X7_fail {l : Launch} {G : Gh} {M : Mem} {a0 : Nat} {q : Mem × Int32} (h : f_X7_fail M a0 = some q) : Ctr l G yX7_fail Y_X7_fail M [.ref (gh G + a0)] q.1 (some (.int q.2)) := by
  refine Ctr.of (Y := Y_X7_fail) (L := [some (.ref (gh G + a0))]) (t := Option.bind (f_X7_fail M a0) (fun q => some (q.1, some (.int q.2)))) (by decide) rfl rfl (nle rfl) (Lof_in 0 _ rfl) (fun X hG hl => ?_) (by rw [h]; rfl)
  subst hG
  subst hl
  unfold f_X7_fail
  refine s_aload_n (pc := 0) 0 dX7_fail_0 rfl rfl ?_
  refine s_aload_n (pc := 1) 0 dX7_fail_1 rfl rfl ?_
  refine s_grd (fun o1 => ?_)
  refine s_geto (pc := 2) F_7 2 rfl o1 dX7_fail_2 kf_X7_18 ?_
  refine s_rvB (fun r2 => ?_)
  refine s_aload_n (pc := 5) 0 dX7_fail_5 rfl rfl ?_
  refine s_geti (pc := 6) F_7 7 rfl o1 dX7_fail_6 kf_X7_63 ?_
  refine s_grd (fun o3 => ?_)
  refine s_grd (fun i4 => ?_)
  refine s_iald (pc := 9) o3 i4 dX7_fail_9 ?_
  refine s_puti (pc := 10) F_7 5 rfl o1 rfl rfl rfl dX7_fail_10 kf_X7_30 (fun M5 hM6 => ?_)
  have h7 := le_wI hM6
  have o8 := h7.ok o1
  refine s_iconst (pc := 13) 0 dX7_fail_13 kc_0 ?_
  exact s_zret rfl rfl dX7_fail_14
set_option maxRecDepth 100000 in
set_option maxHeartbeats 8000000 in
noncomputable def f_X7_hasRoomFor (M : Mem) (a0 : Nat) (p1 : Int32) : Option Int32 :=
  grd (okO M 7 a0) (if 400 < ((mI M a0 4) + p1) then (some 0) else (some 1))
abbrev Y_X7_hasRoomFor : Sta := (RX7, "hasRoomFor", cX7_hasRoomFor, 2, (some .boolean), 1)
set_option maxRecDepth 100000 in
set_option maxHeartbeats 8000000 in
theorem t_X7_hasRoomFor {l : Launch} {G : Gh} {M : Mem} {a0 : Nat} {p1 : Int32} {q : Int32} (h : f_X7_hasRoomFor M a0 p1 = some q) : Ctr l G yX7_hasRoomFor Y_X7_hasRoomFor M [.ref (gh G + a0), .int p1] M (some (.int q)) := by
  refine Ctr.of (Y := Y_X7_hasRoomFor) (L := [some (.ref (gh G + a0)), some (.int p1)]) (t := Option.bind (f_X7_hasRoomFor M a0 p1) (fun q => some (M, some (.int q)))) (by decide) rfl rfl (nle rfl) (Lof_in 0 _ rfl) (fun X hG hl => ?_) (by rw [h]; rfl)
  subst hG
  subst hl
  unfold f_X7_hasRoomFor
  refine s_aload_n (pc := 0) 0 dX7_hasRoomFor_0 rfl rfl ?_
  refine s_grd (fun o1 => ?_)
  refine s_geti (pc := 1) F_7 4 rfl o1 dX7_hasRoomFor_1 kf_X7_34 ?_
  refine s_iload_n (pc := 4) 1 dX7_hasRoomFor_4 rfl rfl ?_
  refine s_iadd (pc := 5) dX7_hasRoomFor_5 ?_
  refine s_sipush (pc := 6) 400 dX7_hasRoomFor_6 ks_400 ?_
  refine s_icgt (pc := 9) 16 dX7_hasRoomFor_9 rfl ?_ ?_
  · refine s_iconst (pc := 16) 0 dX7_hasRoomFor_16 kc_0 ?_
    exact s_zret rfl rfl dX7_hasRoomFor_17
  · refine s_iconst (pc := 12) 1 dX7_hasRoomFor_12 kc_1 ?_
    refine s_goto (pc := 13) 17 dX7_hasRoomFor_13 rfl ?_
    exact s_zret rfl rfl dX7_hasRoomFor_17
set_option maxRecDepth 100000 in
set_option maxHeartbeats 8000000 in
noncomputable def f_X7_lawWord (M : Mem) (a0 : Nat) : Option (Mem × Int32) :=
  grd (okO M 7 a0) (Option.bind (mR M a0 3) (fun r2 => grd (okO M 9 r2) (bv (fun (s5 : Int32) => grd (pb ((mI M r2 4) ||| s5)) (bv (wI M r2 4 ((mI M r2 4) ||| s5)) (fun M8 => if (mI M8 a0 8) < 272 then (some (M8, (-1))) else (if 279 < (mI M8 a0 8) then (some (M8, (-1))) else (some (M8, (mI M8 a0 8) - 272)))))) (fun j4 => if (mI M a0 8) = 278 then (j4 1) else (j4 0)))))
abbrev Y_X7_lawWord : Sta := (RX7, "lawWord", cX7_lawWord, 1, (some .int), 1)
set_option maxRecDepth 100000 in
set_option maxHeartbeats 8000000 in
theorem t_X7_lawWord {l : Launch} {G : Gh} {M : Mem} {a0 : Nat} {q : Mem × Int32} (h : f_X7_lawWord M a0 = some q) : Ctr l G yX7_lawWord Y_X7_lawWord M [.ref (gh G + a0)] q.1 (some (.int q.2)) := by
  refine Ctr.of (Y := Y_X7_lawWord) (L := [some (.ref (gh G + a0))]) (t := Option.bind (f_X7_lawWord M a0) (fun q => some (q.1, some (.int q.2)))) (by decide) rfl rfl (nle rfl) (Lof_in 0 _ rfl) (fun X hG hl => ?_) (by rw [h]; rfl)
  subst hG
  subst hl
  unfold f_X7_lawWord
  refine s_aload_n (pc := 0) 0 dX7_lawWord_0 rfl rfl ?_
  refine s_grd (fun o1 => ?_)
  refine s_geto (pc := 1) F_7 3 rfl o1 dX7_lawWord_1 kf_X7_26 ?_
  refine s_rvB (fun r2 => ?_)
  refine s_dup (pc := 4) dX7_lawWord_4 rfl ?_
  refine s_grd (fun o3 => ?_)
  refine s_geti (pc := 5) F_9 4 rfl o3 dX7_lawWord_5 kf_X7_170 ?_
  refine s_aload_n (pc := 8) 0 dX7_lawWord_8 rfl rfl ?_
  refine s_geti (pc := 9) F_7 8 rfl o1 dX7_lawWord_9 kf_X7_66 ?_
  refine s_sipush (pc := 12) 278 dX7_lawWord_12 ks_278 ?_
  refine s_join M (fun s5 : Int32 => M) 23 (fun s5 : Int32 => [some (.ref (gh (xG X) + a0))]) (fun s5 : Int32 => [.int s5, .int (mI M r2 4), .ref (gh (xG X) + r2)]) (fun s5 hs6 => ?_) (fun j4 hj7 => ?_)
  · show S0 X _ M 23 [some (.ref (gh (xG X) + a0))] [.int s5, .int (mI M r2 4), .ref (gh (xG X) + r2)] _
    refine s_ior (pc := 23) dX7_lawWord_23 ?_
    refine s_grd (fun g11 => ?_)
    refine s_puti (pc := 24) F_9 4 rfl o3 rfl g11.1 g11.2 dX7_lawWord_24 kf_X7_170 (fun M8 hM9 => ?_)
    have h10 := le_wI hM9
    have o12 := h10.ok o1
    refine s_aload_n (pc := 27) 0 dX7_lawWord_27 rfl rfl ?_
    refine s_geti (pc := 28) F_7 8 rfl o12 dX7_lawWord_28 kf_X7_66 ?_
    refine s_sipush (pc := 31) 272 dX7_lawWord_31 ks_272 ?_
    refine s_iclt (pc := 34) 58 dX7_lawWord_34 rfl ?_ ?_
    · refine s_iconst (pc := 58) (-1) dX7_lawWord_58 kc_m1 ?_
      exact s_iret rfl dX7_lawWord_59
    · refine s_aload_n (pc := 37) 0 dX7_lawWord_37 rfl rfl ?_
      refine s_geti (pc := 38) F_7 8 rfl o12 dX7_lawWord_38 kf_X7_66 ?_
      refine s_sipush (pc := 41) 279 dX7_lawWord_41 ks_279 ?_
      refine s_icgt (pc := 44) 58 dX7_lawWord_44 rfl ?_ ?_
      · refine s_iconst (pc := 58) (-1) dX7_lawWord_58 kc_m1 ?_
        exact s_iret rfl dX7_lawWord_59
      · refine s_aload_n (pc := 47) 0 dX7_lawWord_47 rfl rfl ?_
        refine s_geti (pc := 48) F_7 8 rfl o12 dX7_lawWord_48 kf_X7_66 ?_
        refine s_sipush (pc := 51) 272 dX7_lawWord_51 ks_272 ?_
        refine s_isub (pc := 54) dX7_lawWord_54 ?_
        refine s_goto (pc := 55) 59 dX7_lawWord_55 rfl ?_
        exact s_iret rfl dX7_lawWord_59
  · refine s_icne (pc := 15) 22 dX7_lawWord_15 rfl ?_ ?_
    · refine s_iconst (pc := 22) 0 dX7_lawWord_22 kc_0 ?_
      exact s_drop (hj7 0 Le.rf) (And.intro rfl trivial)
    · refine s_iconst (pc := 18) 1 dX7_lawWord_18 kc_1 ?_
      refine s_goto (pc := 19) 23 dX7_lawWord_19 rfl ?_
      exact s_drop (hj7 1 Le.rf) (And.intro rfl trivial)
set_option maxRecDepth 100000 in
set_option maxHeartbeats 8000000 in
noncomputable def f_X7_next (M : Mem) (a0 : Nat) : Option Mem :=
  grd (okO M 7 a0) (bv (fun (s3 : Int32) => bv (wI M a0 7 s3) (fun M6 => Option.bind (mR M6 a0 1) (fun r10 => grd (okO M6 14 r10) (grd (vp_in (mI M6 a0 7) (mL M6 r10)) (bv (wI M6 a0 8 (mI M6 r10 (mI M6 a0 7).toNatClampNeg)) (fun M13 => some M13)))))) (fun j2 => if 400 ≤ (mI M a0 7) then (j2 (mI M a0 7)) else (j2 ((mI M a0 7) + 1))))
abbrev Y_X7_next : Sta := (RX7, "next", cX7_next, 1, none, 1)
set_option maxRecDepth 100000 in
set_option maxHeartbeats 8000000 in
theorem t_X7_next {l : Launch} {G : Gh} {M : Mem} {a0 : Nat} {q : Mem} (h : f_X7_next M a0 = some q) : Ctr l G yX7_next Y_X7_next M [.ref (gh G + a0)] q (none) := by
  refine Ctr.of (Y := Y_X7_next) (L := [some (.ref (gh G + a0))]) (t := Option.bind (f_X7_next M a0) (fun q => some (q, (none : Option Value)))) (by decide) rfl rfl (nle rfl) (Lof_in 0 _ rfl) (fun X hG hl => ?_) (by rw [h]; rfl)
  subst hG
  subst hl
  unfold f_X7_next
  refine s_aload_n (pc := 0) 0 dX7_next_0 rfl rfl ?_
  refine s_aload_n (pc := 1) 0 dX7_next_1 rfl rfl ?_
  refine s_grd (fun o1 => ?_)
  refine s_geti (pc := 2) F_7 7 rfl o1 dX7_next_2 kf_X7_63 ?_
  refine s_sipush (pc := 5) 400 dX7_next_5 ks_400 ?_
  refine s_join M (fun s3 : Int32 => M) 24 (fun s3 : Int32 => [some (.ref (gh (xG X) + a0))]) (fun s3 : Int32 => [.int s3, .ref (gh (xG X) + a0)]) (fun s3 hs4 => ?_) (fun j2 hj5 => ?_)
  · show S0 X _ M 24 [some (.ref (gh (xG X) + a0))] [.int s3, .ref (gh (xG X) + a0)] _
    refine s_puti (pc := 24) F_7 7 rfl o1 rfl rfl rfl dX7_next_24 kf_X7_63 (fun M6 hM7 => ?_)
    have h8 := le_wI hM7
    have o9 := h8.ok o1
    refine s_aload_n (pc := 27) 0 dX7_next_27 rfl rfl ?_
    refine s_aload_n (pc := 28) 0 dX7_next_28 rfl rfl ?_
    refine s_geto (pc := 29) F_7 1 rfl o9 dX7_next_29 kf_X7_15 ?_
    refine s_rvB (fun r10 => ?_)
    refine s_aload_n (pc := 32) 0 dX7_next_32 rfl rfl ?_
    refine s_geti (pc := 33) F_7 7 rfl o9 dX7_next_33 kf_X7_63 ?_
    refine s_grd (fun o11 => ?_)
    refine s_grd (fun i12 => ?_)
    refine s_iald (pc := 36) o11 i12 dX7_next_36 ?_
    refine s_puti (pc := 37) F_7 8 rfl o9 rfl rfl rfl dX7_next_37 kf_X7_66 (fun M13 hM14 => ?_)
    have h15 := le_wI hM14
    have o16 := h15.ok o9
    exact s_vret rfl dX7_next_40
  · refine s_icge (pc := 8) 20 dX7_next_8 rfl ?_ ?_
    · refine s_aload_n (pc := 20) 0 dX7_next_20 rfl rfl ?_
      refine s_geti (pc := 21) F_7 7 rfl o1 dX7_next_21 kf_X7_63 ?_
      exact s_drop (hj5 (mI M a0 7) Le.rf) (And.intro rfl trivial)
    · refine s_aload_n (pc := 11) 0 dX7_next_11 rfl rfl ?_
      refine s_geti (pc := 12) F_7 7 rfl o1 dX7_next_12 kf_X7_63 ?_
      refine s_iconst (pc := 15) 1 dX7_next_15 kc_1 ?_
      refine s_iadd (pc := 16) dX7_next_16 ?_
      refine s_goto (pc := 17) 24 dX7_next_17 rfl ?_
      exact s_drop (hj5 ((mI M a0 7) + 1) Le.rf) (And.intro rfl trivial)
set_option maxRecDepth 100000 in
set_option maxHeartbeats 8000000 in
noncomputable def f_X7_opOf (M : Mem) (a0 : Nat) (p1 : Int32) (p2 : Int32) : Option Int32 :=
  grd (okO M 7 a0) (bv (fun (s3 : Int32) => if s3 < p1 then (some (-1)) else (if p2 < s3 then (some (-1)) else (some s3))) (fun j2 => bv (fun (s7 : Unit) => j2 (-1)) (fun j6 => swO (mI M a0 8) (swC 37 [(145, j2 7), (169, j6 ()), (169, j6 ()), (169, j6 ()), (169, j6 ()), (134, j2 5), (124, j2 3), (169, j6 ()), (129, j2 4), (169, j6 ()), (139, j2 6), (169, j6 ()), (169, j6 ()), (169, j6 ()), (169, j6 ()), (169, j6 ()), (169, j6 ()), (169, j6 ()), (169, j6 ()), (169, j6 ()), (169, j6 ()), (169, j6 ()), (169, j6 ()), (151, j2 8), (163, j2 10), (157, j2 9)]) (j6 ()))))
abbrev Y_X7_opOf : Sta := (RX7, "opOf", cX7_opOf, 4, (some .int), 1)
set_option maxRecDepth 100000 in
set_option maxHeartbeats 8000000 in
theorem t_X7_opOf {l : Launch} {G : Gh} {M : Mem} {a0 : Nat} {p1 : Int32} {p2 : Int32} {q : Int32} (h : f_X7_opOf M a0 p1 p2 = some q) : Ctr l G yX7_opOf Y_X7_opOf M [.ref (gh G + a0), .int p1, .int p2] M (some (.int q)) := by
  refine Ctr.of (Y := Y_X7_opOf) (L := [some (.ref (gh G + a0)), some (.int p1), some (.int p2), none]) (t := Option.bind (f_X7_opOf M a0 p1 p2) (fun q => some (M, some (.int q)))) (by decide) rfl rfl (nle rfl) (Lof_in 1 _ rfl) (fun X hG hl => ?_) (by rw [h]; rfl)
  subst hG
  subst hl
  unfold f_X7_opOf
  refine s_aload_n (pc := 0) 0 dX7_opOf_0 rfl rfl ?_
  refine s_grd (fun o1 => ?_)
  refine s_geti (pc := 1) F_7 8 rfl o1 dX7_opOf_1 kf_X7_66 ?_
  refine s_join M (fun s3 : Int32 => M) 171 (fun s3 : Int32 => [none, some (.int p1), some (.int p2), some (.int s3)]) (fun s3 : Int32 => []) (fun s3 hs4 => ?_) (fun j2 hj5 => ?_)
  · show S0 X _ M 171 [none, some (.int p1), some (.int p2), some (.int s3)] [] _
    refine s_iload_n (pc := 171) 3 dX7_opOf_171 rfl rfl ?_
    refine s_iload_n (pc := 172) 1 dX7_opOf_172 rfl rfl ?_
    refine s_iclt (pc := 173) 185 dX7_opOf_173 rfl ?_ ?_
    · refine s_iconst (pc := 185) (-1) dX7_opOf_185 kc_m1 ?_
      exact s_iret rfl dX7_opOf_186
    · refine s_iload_n (pc := 176) 3 dX7_opOf_176 rfl rfl ?_
      refine s_iload_n (pc := 177) 2 dX7_opOf_177 rfl rfl ?_
      refine s_icgt (pc := 178) 185 dX7_opOf_178 rfl ?_ ?_
      · refine s_iconst (pc := 185) (-1) dX7_opOf_185 kc_m1 ?_
        exact s_iret rfl dX7_opOf_186
      · refine s_iload_n (pc := 181) 3 dX7_opOf_181 rfl rfl ?_
        refine s_goto (pc := 182) 186 dX7_opOf_182 rfl ?_
        exact s_iret rfl dX7_opOf_186
  · refine s_join M (fun s7 : Unit => M) 169 (fun s7 : Unit => [none, some (.int p1), some (.int p2), none]) (fun s7 : Unit => []) (fun s7 hs8 => ?_) (fun j6 hj9 => ?_)
    · show S0 X _ M 169 [none, some (.int p1), some (.int p2), none] [] _
      refine s_iconst (pc := 169) (-1) dX7_opOf_169 kc_m1 ?_
      refine s_istore_n (pc := 170) 3 dX7_opOf_170 rfl (nlt rfl) rfl (L' := [none, some (.int p1), some (.int p2), some (.int (-1))]) rfl ?_
      exact s_drop (hj5 (-1) Le.rf) (And.intro rfl (And.intro rfl (And.intro rfl trivial)))
    · refine s_tsw (pc := 4) _ 169 dX7_opOf_4 rfl rfl (And.intro (by decide) (And.intro (by simp only [List.length_cons, List.length_nil]; decide) rfl)) ?_ ?_
      · refine (And.intro ?_ (And.intro ?_ (And.intro ?_ (And.intro ?_ (And.intro ?_ (And.intro ?_ (And.intro ?_ (And.intro ?_ (And.intro ?_ (And.intro ?_ (And.intro ?_ (And.intro ?_ (And.intro ?_ (And.intro ?_ (And.intro ?_ (And.intro ?_ (And.intro ?_ (And.intro ?_ (And.intro ?_ (And.intro ?_ (And.intro ?_ (And.intro ?_ (And.intro ?_ (And.intro ?_ (And.intro ?_ (And.intro ?_ trivial))))))))))))))))))))))))))
        · dsimp only
          refine s_bipush (pc := 145) 7 dX7_opOf_145 kb_7 ?_
          refine s_istore_n (pc := 147) 3 dX7_opOf_147 rfl (nlt rfl) rfl (L' := [some (.ref (gh (xG X) + a0)), some (.int p1), some (.int p2), some (.int 7)]) rfl ?_
          refine s_goto (pc := 148) 171 dX7_opOf_148 rfl ?_
          exact s_drop (hj5 7 Le.rf) (And.intro rfl (And.intro rfl (And.intro rfl trivial)))
        · dsimp only
          exact s_drop (hj9 () Le.rf) (And.intro rfl (And.intro rfl trivial))
        · dsimp only
          exact s_drop (hj9 () Le.rf) (And.intro rfl (And.intro rfl trivial))
        · dsimp only
          exact s_drop (hj9 () Le.rf) (And.intro rfl (And.intro rfl trivial))
        · dsimp only
          exact s_drop (hj9 () Le.rf) (And.intro rfl (And.intro rfl trivial))
        · dsimp only
          refine s_iconst (pc := 134) 5 dX7_opOf_134 kc_5 ?_
          refine s_istore_n (pc := 135) 3 dX7_opOf_135 rfl (nlt rfl) rfl (L' := [some (.ref (gh (xG X) + a0)), some (.int p1), some (.int p2), some (.int 5)]) rfl ?_
          refine s_goto (pc := 136) 171 dX7_opOf_136 rfl ?_
          exact s_drop (hj5 5 Le.rf) (And.intro rfl (And.intro rfl (And.intro rfl trivial)))
        · dsimp only
          refine s_iconst (pc := 124) 3 dX7_opOf_124 kc_3 ?_
          refine s_istore_n (pc := 125) 3 dX7_opOf_125 rfl (nlt rfl) rfl (L' := [some (.ref (gh (xG X) + a0)), some (.int p1), some (.int p2), some (.int 3)]) rfl ?_
          refine s_goto (pc := 126) 171 dX7_opOf_126 rfl ?_
          exact s_drop (hj5 3 Le.rf) (And.intro rfl (And.intro rfl (And.intro rfl trivial)))
        · dsimp only
          exact s_drop (hj9 () Le.rf) (And.intro rfl (And.intro rfl trivial))
        · dsimp only
          refine s_iconst (pc := 129) 4 dX7_opOf_129 kc_4 ?_
          refine s_istore_n (pc := 130) 3 dX7_opOf_130 rfl (nlt rfl) rfl (L' := [some (.ref (gh (xG X) + a0)), some (.int p1), some (.int p2), some (.int 4)]) rfl ?_
          refine s_goto (pc := 131) 171 dX7_opOf_131 rfl ?_
          exact s_drop (hj5 4 Le.rf) (And.intro rfl (And.intro rfl (And.intro rfl trivial)))
        · dsimp only
          exact s_drop (hj9 () Le.rf) (And.intro rfl (And.intro rfl trivial))
        · dsimp only
          refine s_bipush (pc := 139) 6 dX7_opOf_139 kb_6 ?_
          refine s_istore_n (pc := 141) 3 dX7_opOf_141 rfl (nlt rfl) rfl (L' := [some (.ref (gh (xG X) + a0)), some (.int p1), some (.int p2), some (.int 6)]) rfl ?_
          refine s_goto (pc := 142) 171 dX7_opOf_142 rfl ?_
          exact s_drop (hj5 6 Le.rf) (And.intro rfl (And.intro rfl (And.intro rfl trivial)))
        · dsimp only
          exact s_drop (hj9 () Le.rf) (And.intro rfl (And.intro rfl trivial))
        · dsimp only
          exact s_drop (hj9 () Le.rf) (And.intro rfl (And.intro rfl trivial))
        · dsimp only
          exact s_drop (hj9 () Le.rf) (And.intro rfl (And.intro rfl trivial))
        · dsimp only
          exact s_drop (hj9 () Le.rf) (And.intro rfl (And.intro rfl trivial))
        · dsimp only
          exact s_drop (hj9 () Le.rf) (And.intro rfl (And.intro rfl trivial))
        · dsimp only
          exact s_drop (hj9 () Le.rf) (And.intro rfl (And.intro rfl trivial))
        · dsimp only
          exact s_drop (hj9 () Le.rf) (And.intro rfl (And.intro rfl trivial))
        · dsimp only
          exact s_drop (hj9 () Le.rf) (And.intro rfl (And.intro rfl trivial))
        · dsimp only
          exact s_drop (hj9 () Le.rf) (And.intro rfl (And.intro rfl trivial))
        · dsimp only
          exact s_drop (hj9 () Le.rf) (And.intro rfl (And.intro rfl trivial))
        · dsimp only
          exact s_drop (hj9 () Le.rf) (And.intro rfl (And.intro rfl trivial))
        · dsimp only
          exact s_drop (hj9 () Le.rf) (And.intro rfl (And.intro rfl trivial))
        · dsimp only
          refine s_bipush (pc := 151) 8 dX7_opOf_151 kb_8 ?_
          refine s_istore_n (pc := 153) 3 dX7_opOf_153 rfl (nlt rfl) rfl (L' := [some (.ref (gh (xG X) + a0)), some (.int p1), some (.int p2), some (.int 8)]) rfl ?_
          refine s_goto (pc := 154) 171 dX7_opOf_154 rfl ?_
          exact s_drop (hj5 8 Le.rf) (And.intro rfl (And.intro rfl (And.intro rfl trivial)))
        · dsimp only
          refine s_bipush (pc := 163) 10 dX7_opOf_163 kb_10 ?_
          refine s_istore_n (pc := 165) 3 dX7_opOf_165 rfl (nlt rfl) rfl (L' := [some (.ref (gh (xG X) + a0)), some (.int p1), some (.int p2), some (.int 10)]) rfl ?_
          refine s_goto (pc := 166) 171 dX7_opOf_166 rfl ?_
          exact s_drop (hj5 10 Le.rf) (And.intro rfl (And.intro rfl (And.intro rfl trivial)))
        · dsimp only
          refine s_bipush (pc := 157) 9 dX7_opOf_157 kb_9 ?_
          refine s_istore_n (pc := 159) 3 dX7_opOf_159 rfl (nlt rfl) rfl (L' := [some (.ref (gh (xG X) + a0)), some (.int p1), some (.int p2), some (.int 9)]) rfl ?_
          refine s_goto (pc := 160) 171 dX7_opOf_160 rfl ?_
          exact s_drop (hj5 9 Le.rf) (And.intro rfl (And.intro rfl (And.intro rfl trivial)))
      · exact s_drop (hj9 () Le.rf) (And.intro rfl (And.intro rfl trivial))
set_option maxRecDepth 100000 in
set_option maxHeartbeats 8000000 in
noncomputable def f_X8_isFree (M : Mem) (a0 : Nat) : Option Int32 :=
  grd (okO M 8 a0) (ncase (mR M a0 3) (some 1) (fun r2 => some 0))
abbrev Y_X8_isFree : Sta := (RX8, "isFree", cX8_isFree, 1, (some .boolean), 1)
set_option maxRecDepth 100000 in
set_option maxHeartbeats 8000000 in
theorem t_X8_isFree {l : Launch} {G : Gh} {M : Mem} {a0 : Nat} {q : Int32} (h : f_X8_isFree M a0 = some q) : Ctr l G yX8_isFree Y_X8_isFree M [.ref (gh G + a0)] M (some (.int q)) := by
  refine Ctr.of (Y := Y_X8_isFree) (L := [some (.ref (gh G + a0))]) (t := Option.bind (f_X8_isFree M a0) (fun q => some (M, some (.int q)))) (by decide) rfl rfl (nle rfl) (Lof_in 0 _ rfl) (fun X hG hl => ?_) (by rw [h]; rfl)
  subst hG
  subst hl
  unfold f_X8_isFree
  refine s_aload_n (pc := 0) 0 dX8_isFree_0 rfl rfl ?_
  refine s_grd (fun o1 => ?_)
  refine s_geto (pc := 1) F_8 3 rfl o1 dX8_isFree_1 kf_X8_30 ?_
  refine s_rv ?_ (fun r2 => ?_)
  · refine s_nonnullF (pc := 4) dX8_isFree_4 ?_
    refine s_iconst (pc := 7) 1 dX8_isFree_7 kc_1 ?_
    refine s_goto (pc := 8) 12 dX8_isFree_8 rfl ?_
    exact s_zret rfl rfl dX8_isFree_12
  · refine s_nonnullT (pc := 4) 11 dX8_isFree_4 rfl ?_
    refine s_iconst (pc := 11) 0 dX8_isFree_11 kc_0 ?_
    exact s_zret rfl rfl dX8_isFree_12
set_option maxRecDepth 100000 in
set_option maxHeartbeats 8000000 in
noncomputable def f_X9_aim (M : Mem) (a0 : Nat) (p1 : Int32) : Option Mem :=
  if p1 < 0 then (some M) else (grd (okO M 9 a0) (if (mI M a0 3) ≤ p1 then (some M) else (Option.bind (mR M a0 1) (fun r2 => grd (okO M 14 r2) (grd (vp_in p1 (mL M r2)) (bv (wI M r2 p1.toNatClampNeg ((mI M r2 p1.toNatClampNeg) + ((mI M a0 3) * 16))) (fun M5 => some M5)))))))
abbrev Y_X9_aim : Sta := (RX9, "aim", cX9_aim, 2, none, 1)
set_option maxRecDepth 100000 in
set_option maxHeartbeats 8000000 in
theorem t_X9_aim {l : Launch} {G : Gh} {M : Mem} {a0 : Nat} {p1 : Int32} {q : Mem} (h : f_X9_aim M a0 p1 = some q) : Ctr l G yX9_aim Y_X9_aim M [.ref (gh G + a0), .int p1] q (none) := by
  refine Ctr.of (Y := Y_X9_aim) (L := [some (.ref (gh G + a0)), some (.int p1)]) (t := Option.bind (f_X9_aim M a0 p1) (fun q => some (q, (none : Option Value)))) (by decide) rfl rfl (nle rfl) (Lof_in 0 _ rfl) (fun X hG hl => ?_) (by rw [h]; rfl)
  subst hG
  subst hl
  unfold f_X9_aim
  refine s_iload_n (pc := 0) 1 dX9_aim_0 rfl rfl ?_
  refine s_iflt (pc := 1) 28 dX9_aim_1 rfl ?_ ?_
  · exact s_vret rfl dX9_aim_28
  · refine s_iload_n (pc := 4) 1 dX9_aim_4 rfl rfl ?_
    refine s_aload_n (pc := 5) 0 dX9_aim_5 rfl rfl ?_
    refine s_grd (fun o1 => ?_)
    refine s_geti (pc := 6) F_9 3 rfl o1 dX9_aim_6 kf_X9_22 ?_
    refine s_icge (pc := 9) 28 dX9_aim_9 rfl ?_ ?_
    · exact s_vret rfl dX9_aim_28
    · refine s_aload_n (pc := 12) 0 dX9_aim_12 rfl rfl ?_
      refine s_geto (pc := 13) F_9 1 rfl o1 dX9_aim_13 kf_X9_15 ?_
      refine s_rvB (fun r2 => ?_)
      refine s_iload_n (pc := 16) 1 dX9_aim_16 rfl rfl ?_
      refine s_dup2 (pc := 17) dX9_aim_17 rfl rfl ?_
      refine s_grd (fun o3 => ?_)
      refine s_grd (fun i4 => ?_)
      refine s_iald (pc := 18) o3 i4 dX9_aim_18 ?_
      refine s_aload_n (pc := 19) 0 dX9_aim_19 rfl rfl ?_
      refine s_geti (pc := 20) F_9 3 rfl o1 dX9_aim_20 kf_X9_22 ?_
      refine s_bipush (pc := 23) 16 dX9_aim_23 kb_16 ?_
      refine s_imul (pc := 25) dX9_aim_25 ?_
      refine s_iadd (pc := 26) dX9_aim_26 ?_
      refine s_iast (pc := 27) o3 i4 dX9_aim_27 (fun M5 hM6 => ?_)
      have h7 := le_wI hM6
      have o8 := h7.ok o1
      exact s_vret rfl dX9_aim_28
set_option maxRecDepth 100000 in
set_option maxHeartbeats 8000000 in
noncomputable def f_X9_clear (M : Mem) (a0 : Nat) : Option Mem :=
  grd (okO M 9 a0) (bv (wI M a0 2 0) (fun M2 => bv (wI M2 a0 3 0) (fun M6 => bv (wI M6 a0 4 0) (fun M10 => some M10))))
abbrev Y_X9_clear : Sta := (RX9, "clear", cX9_clear, 1, none, 1)
set_option maxRecDepth 100000 in
set_option maxHeartbeats 8000000 in
theorem t_X9_clear {l : Launch} {G : Gh} {M : Mem} {a0 : Nat} {q : Mem} (h : f_X9_clear M a0 = some q) : Ctr l G yX9_clear Y_X9_clear M [.ref (gh G + a0)] q (none) := by
  refine Ctr.of (Y := Y_X9_clear) (L := [some (.ref (gh G + a0))]) (t := Option.bind (f_X9_clear M a0) (fun q => some (q, (none : Option Value)))) (by decide) rfl rfl (nle rfl) (Lof_in 0 _ rfl) (fun X hG hl => ?_) (by rw [h]; rfl)
  subst hG
  subst hl
  unfold f_X9_clear
  refine s_aload_n (pc := 0) 0 dX9_clear_0 rfl rfl ?_
  refine s_iconst (pc := 1) 0 dX9_clear_1 kc_0 ?_
  refine s_grd (fun o1 => ?_)
  refine s_puti (pc := 2) F_9 2 rfl o1 rfl rfl rfl dX9_clear_2 kf_X9_18 (fun M2 hM3 => ?_)
  have h4 := le_wI hM3
  have o5 := h4.ok o1
  refine s_aload_n (pc := 5) 0 dX9_clear_5 rfl rfl ?_
  refine s_iconst (pc := 6) 0 dX9_clear_6 kc_0 ?_
  refine s_puti (pc := 7) F_9 3 rfl o5 rfl rfl rfl dX9_clear_7 kf_X9_22 (fun M6 hM7 => ?_)
  have h8 := le_wI hM7
  have o9 := h8.ok o5
  refine s_aload_n (pc := 10) 0 dX9_clear_10 rfl rfl ?_
  refine s_iconst (pc := 11) 0 dX9_clear_11 kc_0 ?_
  refine s_puti (pc := 12) F_9 4 rfl o9 rfl rfl (by decide) dX9_clear_12 kf_X9_34 (fun M10 hM11 => ?_)
  have h12 := le_wI hM11
  have o13 := h12.ok o9
  exact s_vret rfl dX9_clear_15
set_option maxRecDepth 100000 in
set_option maxHeartbeats 8000000 in
noncomputable def f_X9_emit (M : Mem) (a0 : Nat) (p1 : Int32) (p2 : Int32) : Option (Mem × Int32) :=
  grd (okO M 9 a0) (Option.bind (mR M a0 1) (fun r2 => grd (okO M 14 r2) (bv (fun (s5 : Mem) => some (s5, (mI s5 a0 3) - 1)) (fun j4 => if (nI (mL M r2)) ≤ (mI M a0 3) then (j4 M) else (Option.bind (mR M a0 1) (fun r9 => grd (okO M 14 r9) (grd (vp_in (mI M a0 3) (mL M r9)) (bv (wI M r9 (mI M a0 3).toNatClampNeg ((p2 * 16) + p1)) (fun M12 => bv (wI M12 a0 3 ((mI M12 a0 3) + 1)) (fun M16 => j4 M16))))))))))
abbrev Y_X9_emit : Sta := (RX9, "emit", cX9_emit, 3, (some .int), 1)
set_option maxRecDepth 100000 in
set_option maxHeartbeats 8000000 in
theorem t_X9_emit {l : Launch} {G : Gh} {M : Mem} {a0 : Nat} {p1 : Int32} {p2 : Int32} {q : Mem × Int32} (h : f_X9_emit M a0 p1 p2 = some q) : Ctr l G yX9_emit Y_X9_emit M [.ref (gh G + a0), .int p1, .int p2] q.1 (some (.int q.2)) := by
  refine Ctr.of (Y := Y_X9_emit) (L := [some (.ref (gh G + a0)), some (.int p1), some (.int p2)]) (t := Option.bind (f_X9_emit M a0 p1 p2) (fun q => some (q.1, some (.int q.2)))) (by decide) rfl rfl (nle rfl) (Lof_in 0 _ rfl) (fun X hG hl => ?_) (by rw [h]; rfl)
  subst hG
  subst hl
  unfold f_X9_emit
  refine s_aload_n (pc := 0) 0 dX9_emit_0 rfl rfl ?_
  refine s_grd (fun o1 => ?_)
  refine s_geti (pc := 1) F_9 3 rfl o1 dX9_emit_1 kf_X9_22 ?_
  refine s_aload_n (pc := 4) 0 dX9_emit_4 rfl rfl ?_
  refine s_geto (pc := 5) F_9 1 rfl o1 dX9_emit_5 kf_X9_15 ?_
  refine s_rvB (fun r2 => ?_)
  refine s_grd (fun o3 => ?_)
  refine s_alen (pc := 8) 14 (And.intro (nle rfl) (nle rfl)) o3 dX9_emit_8 ?_
  refine s_join M (fun s5 : Mem => s5) 37 (fun s5 : Mem => [some (.ref (gh (xG X) + a0)), none, none]) (fun s5 : Mem => []) (fun s5 hs6 => ?_) (fun j4 hj7 => ?_)
  · show S0 X _ s5 37 [some (.ref (gh (xG X) + a0)), none, none] [] _
    have o8 := hs6.ok o1
    refine s_aload_n (pc := 37) 0 dX9_emit_37 rfl rfl ?_
    refine s_geti (pc := 38) F_9 3 rfl o8 dX9_emit_38 kf_X9_22 ?_
    refine s_iconst (pc := 41) 1 dX9_emit_41 kc_1 ?_
    refine s_isub (pc := 42) dX9_emit_42 ?_
    exact s_iret rfl dX9_emit_43
  · refine s_icge (pc := 9) 37 dX9_emit_9 rfl ?_ ?_
    · exact s_drop (hj7 M Le.rf) (And.intro rfl trivial)
    · refine s_aload_n (pc := 12) 0 dX9_emit_12 rfl rfl ?_
      refine s_geto (pc := 13) F_9 1 rfl o1 dX9_emit_13 kf_X9_15 ?_
      refine s_rvB (fun r9 => ?_)
      refine s_aload_n (pc := 16) 0 dX9_emit_16 rfl rfl ?_
      refine s_geti (pc := 17) F_9 3 rfl o1 dX9_emit_17 kf_X9_22 ?_
      refine s_iload_n (pc := 20) 2 dX9_emit_20 rfl rfl ?_
      refine s_bipush (pc := 21) 16 dX9_emit_21 kb_16 ?_
      refine s_imul (pc := 23) dX9_emit_23 ?_
      refine s_iload_n (pc := 24) 1 dX9_emit_24 rfl rfl ?_
      refine s_iadd (pc := 25) dX9_emit_25 ?_
      refine s_grd (fun o10 => ?_)
      refine s_grd (fun i11 => ?_)
      refine s_iast (pc := 26) o10 i11 dX9_emit_26 (fun M12 hM13 => ?_)
      have h14 := le_wI hM13
      have o15 := h14.ok o1
      refine s_aload_n (pc := 27) 0 dX9_emit_27 rfl rfl ?_
      refine s_dup (pc := 28) dX9_emit_28 rfl ?_
      refine s_geti (pc := 29) F_9 3 rfl o15 dX9_emit_29 kf_X9_22 ?_
      refine s_iconst (pc := 32) 1 dX9_emit_32 kc_1 ?_
      refine s_iadd (pc := 33) dX9_emit_33 ?_
      refine s_puti (pc := 34) F_9 3 rfl o15 rfl rfl rfl dX9_emit_34 kf_X9_22 (fun M16 hM17 => ?_)
      have h18 := le_wI hM17
      have o19 := h18.ok o15
      exact s_drop (hj7 M16 (h14.tr h18)) (And.intro rfl trivial)
set_option maxRecDepth 100000 in
set_option maxHeartbeats 8000000 in
noncomputable def f_X9_init (M : Mem) (a0 : Nat) (p1 : Int32) (p2 : Int32) : Option Mem :=
  grd (nok (p1 * 6)) (bv (nA M 14 (p1 * 6).toNatClampNeg) (fun M2 => grd (okO M2 9 a0) (bv (wR M2 a0 0 (some (mn M))) (fun M7 => grd (nok p2) (bv (nA M7 14 p2.toNatClampNeg) (fun M12 => bv (wR M12 a0 1 (some (mn M7))) (fun M17 => some M17)))))))
abbrev Y_X9_init : Sta := (RX9, "<init>", cX9_init, 3, none, 1)
set_option maxRecDepth 100000 in
set_option maxHeartbeats 8000000 in
theorem t_X9_init {l : Launch} {G : Gh} {M : Mem} {a0 : Nat} {p1 : Int32} {p2 : Int32} {q : Mem} (h : f_X9_init M a0 p1 p2 = some q) : Ctr l G yX9_init Y_X9_init M [.ref (gh G + a0), .int p1, .int p2] q (none) := by
  refine Ctr.of (Y := Y_X9_init) (L := [some (.ref (gh G + a0)), some (.int p1), some (.int p2)]) (t := Option.bind (f_X9_init M a0 p1 p2) (fun q => some (q, (none : Option Value)))) (by decide) rfl rfl (nle rfl) (Lof_in 0 _ rfl) (fun X hG hl => ?_) (by rw [h]; rfl)
  subst hG
  subst hl
  unfold f_X9_init
  refine s_aload_n (pc := 0) 0 dX9_init_0 rfl rfl ?_
  refine s_obj (pc := 1) km_X9_3 wi_obj wc_obj (nle rfl) (nle rfl) dX9_init_1 ?_
  refine s_aload_n (pc := 4) 0 dX9_init_4 rfl rfl ?_
  refine s_iload_n (pc := 5) 1 dX9_init_5 rfl rfl ?_
  refine s_bipush (pc := 6) 6 dX9_init_6 kb_6 ?_
  refine s_imul (pc := 8) dX9_init_8 ?_
  refine s_grd (fun g1 => ?_)
  refine s_newa_int (pc := 9) g1 dX9_init_9 wa_int (fun M2 hM3 => ?_)
  have h4 := le_nA hM3
  have o5 := ok_nA hM3
  refine s_grd (fun o6 => ?_)
  refine s_putrF (pc := 11) F_9 0 rfl o6 rfl rfl rfl rfl rfl dX9_init_11 kf_X9_11 (fun M7 hM8 => ?_)
  have h9 := le_wR hM8
  have o10 := h9.ok o6
  refine s_aload_n (pc := 14) 0 dX9_init_14 rfl rfl ?_
  refine s_iload_n (pc := 15) 2 dX9_init_15 rfl rfl ?_
  refine s_grd (fun g11 => ?_)
  refine s_newa_int (pc := 16) g11 dX9_init_16 wa_int (fun M12 hM13 => ?_)
  have h14 := le_nA hM13
  have o15 := h14.ok o10
  have o16 := ok_nA hM13
  refine s_putrF (pc := 18) F_9 1 rfl o15 rfl rfl rfl rfl rfl dX9_init_18 kf_X9_15 (fun M17 hM18 => ?_)
  have h19 := le_wR hM18
  have o20 := h19.ok o15
  exact s_vret rfl dX9_init_21
set_option maxRecDepth 100000 in
set_option maxHeartbeats 8000000 in
noncomputable def f_X9_set (M : Mem) (a0 : Nat) (p1 : Int32) (p2 : Int32) : Option Mem :=
  grd (okO M 9 a0) (bv ((((mI M a0 2) - 1) * 6) + p1 : Int32) (fun x2 => if x2 < 0 then (some M) else (Option.bind (mR M a0 0) (fun r3 => grd (okO M 14 r3) (if (nI (mL M r3)) ≤ x2 then (some M) else (Option.bind (mR M a0 0) (fun r5 => grd (okO M 14 r5) (grd (vp_in x2 (mL M r5)) (bv (wI M r5 x2.toNatClampNeg p2) (fun M8 => some M8))))))))))
abbrev Y_X9_set : Sta := (RX9, "set", cX9_set, 4, none, 1)
set_option maxRecDepth 100000 in
set_option maxHeartbeats 8000000 in
theorem t_X9_set {l : Launch} {G : Gh} {M : Mem} {a0 : Nat} {p1 : Int32} {p2 : Int32} {q : Mem} (h : f_X9_set M a0 p1 p2 = some q) : Ctr l G yX9_set Y_X9_set M [.ref (gh G + a0), .int p1, .int p2] q (none) := by
  refine Ctr.of (Y := Y_X9_set) (L := [some (.ref (gh G + a0)), some (.int p1), some (.int p2), none]) (t := Option.bind (f_X9_set M a0 p1 p2) (fun q => some (q, (none : Option Value)))) (by decide) rfl rfl (nle rfl) (Lof_in 1 _ rfl) (fun X hG hl => ?_) (by rw [h]; rfl)
  subst hG
  subst hl
  unfold f_X9_set
  refine s_aload_n (pc := 0) 0 dX9_set_0 rfl rfl ?_
  refine s_grd (fun o1 => ?_)
  refine s_geti (pc := 1) F_9 2 rfl o1 dX9_set_1 kf_X9_18 ?_
  refine s_iconst (pc := 4) 1 dX9_set_4 kc_1 ?_
  refine s_isub (pc := 5) dX9_set_5 ?_
  refine s_bipush (pc := 6) 6 dX9_set_6 kb_6 ?_
  refine s_imul (pc := 8) dX9_set_8 ?_
  refine s_iload_n (pc := 9) 1 dX9_set_9 rfl rfl ?_
  refine s_iadd (pc := 10) dX9_set_10 ?_
  refine s_istore_n (pc := 11) 3 dX9_set_11 rfl (nlt rfl) rfl (L' := [some (.ref (gh (xG X) + a0)), some (.int p1), some (.int p2), some (.int ((((mI M a0 2) - 1) * 6) + p1))]) rfl ?_
  refine s_bv (fun x2 : Int32 => [some (.ref (gh (xG X) + a0)), some (.int p1), some (.int p2), some (.int x2)]) (fun x2 => ?_) rfl
  refine s_iload_n (pc := 12) 3 dX9_set_12 rfl rfl ?_
  refine s_iflt (pc := 13) 32 dX9_set_13 rfl ?_ ?_
  · exact s_vret rfl dX9_set_32
  · refine s_iload_n (pc := 16) 3 dX9_set_16 rfl rfl ?_
    refine s_aload_n (pc := 17) 0 dX9_set_17 rfl rfl ?_
    refine s_geto (pc := 18) F_9 0 rfl o1 dX9_set_18 kf_X9_11 ?_
    refine s_rvB (fun r3 => ?_)
    refine s_grd (fun o4 => ?_)
    refine s_alen (pc := 21) 14 (And.intro (nle rfl) (nle rfl)) o4 dX9_set_21 ?_
    refine s_icge (pc := 22) 32 dX9_set_22 rfl ?_ ?_
    · exact s_vret rfl dX9_set_32
    · refine s_aload_n (pc := 25) 0 dX9_set_25 rfl rfl ?_
      refine s_geto (pc := 26) F_9 0 rfl o1 dX9_set_26 kf_X9_11 ?_
      refine s_rvB (fun r5 => ?_)
      refine s_iload_n (pc := 29) 3 dX9_set_29 rfl rfl ?_
      refine s_iload_n (pc := 30) 2 dX9_set_30 rfl rfl ?_
      refine s_grd (fun o6 => ?_)
      refine s_grd (fun i7 => ?_)
      refine s_iast (pc := 31) o6 i7 dX9_set_31 (fun M8 hM9 => ?_)
      have h10 := le_wI hM9
      have o11 := h10.ok o1
      exact s_vret rfl dX9_set_32
set_option maxRecDepth 100000 in
set_option maxHeartbeats 8000000 in
noncomputable def f_X9_told (M : Mem) (a0 : Nat) (p1 : Int32) (p2 : Int32) : Option Int32 :=
  bv ((p1 * 6) + p2 : Int32) (fun x1 => if x1 < 0 then (some (-1)) else (grd (okO M 9 a0) (Option.bind (mR M a0 0) (fun r3 => grd (okO M 14 r3) (if (nI (mL M r3)) ≤ x1 then (some (-1)) else (Option.bind (mR M a0 0) (fun r5 => grd (okO M 14 r5) (grd (vp_in x1 (mL M r5)) (some (mI M r5 x1.toNatClampNeg))))))))))
abbrev Y_X9_told : Sta := (RX9, "told", cX9_told, 4, (some .int), 1)
set_option maxRecDepth 100000 in
set_option maxHeartbeats 8000000 in
theorem t_X9_told {l : Launch} {G : Gh} {M : Mem} {a0 : Nat} {p1 : Int32} {p2 : Int32} {q : Int32} (h : f_X9_told M a0 p1 p2 = some q) : Ctr l G yX9_told Y_X9_told M [.ref (gh G + a0), .int p1, .int p2] M (some (.int q)) := by
  refine Ctr.of (Y := Y_X9_told) (L := [some (.ref (gh G + a0)), some (.int p1), some (.int p2), none]) (t := Option.bind (f_X9_told M a0 p1 p2) (fun q => some (M, some (.int q)))) (by decide) rfl rfl (nle rfl) (Lof_in 1 _ rfl) (fun X hG hl => ?_) (by rw [h]; rfl)
  subst hG
  subst hl
  unfold f_X9_told
  refine s_iload_n (pc := 0) 1 dX9_told_0 rfl rfl ?_
  refine s_bipush (pc := 1) 6 dX9_told_1 kb_6 ?_
  refine s_imul (pc := 3) dX9_told_3 ?_
  refine s_iload_n (pc := 4) 2 dX9_told_4 rfl rfl ?_
  refine s_iadd (pc := 5) dX9_told_5 ?_
  refine s_istore_n (pc := 6) 3 dX9_told_6 rfl (nlt rfl) rfl (L' := [some (.ref (gh (xG X) + a0)), some (.int p1), some (.int p2), some (.int ((p1 * 6) + p2))]) rfl ?_
  refine s_bv (fun x1 : Int32 => [some (.ref (gh (xG X) + a0)), some (.int p1), some (.int p2), some (.int x1)]) (fun x1 => ?_) rfl
  refine s_iload_n (pc := 7) 3 dX9_told_7 rfl rfl ?_
  refine s_iflt (pc := 8) 29 dX9_told_8 rfl ?_ ?_
  · refine s_iconst (pc := 29) (-1) dX9_told_29 kc_m1 ?_
    exact s_iret rfl dX9_told_30
  · refine s_iload_n (pc := 11) 3 dX9_told_11 rfl rfl ?_
    refine s_aload_n (pc := 12) 0 dX9_told_12 rfl rfl ?_
    refine s_grd (fun o2 => ?_)
    refine s_geto (pc := 13) F_9 0 rfl o2 dX9_told_13 kf_X9_11 ?_
    refine s_rvB (fun r3 => ?_)
    refine s_grd (fun o4 => ?_)
    refine s_alen (pc := 16) 14 (And.intro (nle rfl) (nle rfl)) o4 dX9_told_16 ?_
    refine s_icge (pc := 17) 29 dX9_told_17 rfl ?_ ?_
    · refine s_iconst (pc := 29) (-1) dX9_told_29 kc_m1 ?_
      exact s_iret rfl dX9_told_30
    · refine s_aload_n (pc := 20) 0 dX9_told_20 rfl rfl ?_
      refine s_geto (pc := 21) F_9 0 rfl o2 dX9_told_21 kf_X9_11 ?_
      refine s_rvB (fun r5 => ?_)
      refine s_iload_n (pc := 24) 3 dX9_told_24 rfl rfl ?_
      refine s_grd (fun o6 => ?_)
      refine s_grd (fun i7 => ?_)
      refine s_iald (pc := 25) o6 i7 dX9_told_25 ?_
      refine s_goto (pc := 26) 30 dX9_told_26 rfl ?_
      exact s_iret rfl dX9_told_30
set_option maxRecDepth 100000 in
set_option maxHeartbeats 8000000 in
noncomputable def f_X10_changedBack (M : Mem) (a0 : Nat) (p1 : Int32) : Option Int32 :=
  grd (okO M 10 a0) (Option.bind (mR M a0 3) (fun r2 => grd (okO M 14 r2) (grd (vp_in p1 (mL M r2)) (bv (mI M r2 p1.toNatClampNeg : Int32) (fun x5 => Option.bind (loopO (σ := Int32 × Int32) (ρ := Unit ⊕ Int32) (fun s6 => if 12 ≤ s6.2 then (some (.inr (.inl ()))) else (Option.bind (f_X10_hasHouse M a0 s6.1) (fun q18 => if q18 = 0 then (some (.inr (.inl ()))) else (Option.bind (mR M a0 5) (fun r21 => grd (okO M 14 r21) (grd (vp_in s6.1 (mL M r21)) (Option.bind (mR M a0 5) (fun r24 => grd (okO M 14 r24) (grd (vp_in p1 (mL M r24)) (if (mI M r21 s6.1.toNatClampNeg) = (mI M r24 p1.toNatClampNeg) then (some (.inr (.inr s6.2))) else (Option.bind (mR M a0 3) (fun r27 => grd (okO M 14 r27) (grd (vp_in s6.1 (mL M r27)) (bv (mI M r27 s6.1.toNatClampNeg : Int32) (fun x30 => bv (s6.2 + 1 : Int32) (fun x31 => some (.inl (x30, x31)))))))))))))))))) (x5, 1)) (Sum.elim (fun (x14 : Unit) => some (-1)) (fun (x16 : Int32) => some x16)))))))
abbrev Y_X10_changedBack : Sta := (RX10, "changedBack", cX10_changedBack, 4, (some .int), 2)
set_option maxRecDepth 100000 in
set_option maxHeartbeats 8000000 in
theorem t_X10_changedBack {l : Launch} {G : Gh} {M : Mem} {a0 : Nat} {p1 : Int32} {q : Int32} (h : f_X10_changedBack M a0 p1 = some q) : Ctr l G yX10_changedBack Y_X10_changedBack M [.ref (gh G + a0), .int p1] M (some (.int q)) := by
  refine Ctr.of (Y := Y_X10_changedBack) (L := [some (.ref (gh G + a0)), some (.int p1), none, none]) (t := Option.bind (f_X10_changedBack M a0 p1) (fun q => some (M, some (.int q)))) (by decide) rfl rfl (nle rfl) (Lof_in 2 _ rfl) (fun X hG hl => ?_) (by rw [h]; rfl)
  subst hG
  subst hl
  unfold f_X10_changedBack
  refine s_aload_n (pc := 0) 0 dX10_changedBack_0 rfl rfl ?_
  refine s_grd (fun o1 => ?_)
  refine s_geto (pc := 1) F_10 3 rfl o1 dX10_changedBack_1 kf_X10_21 ?_
  refine s_rvB (fun r2 => ?_)
  refine s_iload_n (pc := 4) 1 dX10_changedBack_4 rfl rfl ?_
  refine s_grd (fun o3 => ?_)
  refine s_grd (fun i4 => ?_)
  refine s_iald (pc := 5) o3 i4 dX10_changedBack_5 ?_
  refine s_istore_n (pc := 6) 2 dX10_changedBack_6 rfl (nlt rfl) rfl (L' := [some (.ref (gh (xG X) + a0)), some (.int p1), some (.int (mI M r2 p1.toNatClampNeg)), none]) rfl ?_
  refine s_bv (fun x5 : Int32 => [some (.ref (gh (xG X) + a0)), some (.int p1), some (.int x5), none]) (fun x5 => ?_) rfl
  refine s_iconst (pc := 7) 1 dX10_changedBack_7 kc_1 ?_
  refine s_istore_n (pc := 8) 3 dX10_changedBack_8 rfl (nlt rfl) rfl (L' := [some (.ref (gh (xG X) + a0)), some (.int p1), some (.int x5), some (.int 1)]) rfl ?_
  refine s_drop (L' := [some (.ref (gh (xG X) + a0)), some (.int p1), some (.int x5), some (.int 1)]) ?_ (And.intro rfl (And.intro rfl (And.intro rfl (And.intro rfl trivial))))
  refine s_loop2 M (fun s6 : Int32 × Int32 => M) (fun s6 : Int32 × Int32 => [some (.ref (gh (xG X) + a0)), some (.int p1), some (.int s6.1), some (.int s6.2)]) (fun x14 : Unit => M) 53 (fun x14 : Unit => [none, none, none, none]) (fun x16 : Int32 => M) 38 (fun x16 : Int32 => [none, none, none, some (.int x16)]) (fun x14 hx15 => ?_) (fun x16 hx17 => ?_) (fun T8 R10 R12 hT9 hR11 hR13 s6 hs7 => ?_) (x5, 1) Le.rf
  · show S0 X _ M 53 [none, none, none, none] [] _
    refine s_iconst (pc := 53) (-1) dX10_changedBack_53 kc_m1 ?_
    exact s_iret rfl dX10_changedBack_54
  · show S0 X _ M 38 [none, none, none, some (.int x16)] [] _
    refine s_iload_n (pc := 38) 3 dX10_changedBack_38 rfl rfl ?_
    exact s_iret rfl dX10_changedBack_39
  · show S0 X _ M 9 [some (.ref (gh (xG X) + a0)), some (.int p1), some (.int s6.1), some (.int s6.2)] [] _
    refine s_iload_n (pc := 9) 3 dX10_changedBack_9 rfl rfl ?_
    refine s_bipush (pc := 10) 12 dX10_changedBack_10 kb_12 ?_
    refine s_icge (pc := 12) 53 dX10_changedBack_12 rfl ?_ ?_
    · exact s_drop (hR11 () Le.rf) trivial
    · refine s_aload_n (pc := 15) 0 dX10_changedBack_15 rfl rfl ?_
      refine s_iload_n (pc := 16) 2 dX10_changedBack_16 rfl rfl ?_
      refine s_bind (fun q18 hq19 => ?_)
      have hC20 := t_X10_hasHouse (l := xl X) (G := xG X) hq19
      refine s_callV (pc := 17) (As := [.int s6.1]) (st := []) (nlt rfl) (q := (RX10, TX10, 15)) rfl rfl o1 cl_X10_hasHouse wi_X10_hasHouse wl_X10_hasHouse km_X10_85 rfl rfl (nle rfl) (nle rfl) (nle rfl) dX10_changedBack_17 hC20 ?_
      show S0 X _ M 20 [some (.ref (gh (xG X) + a0)), some (.int p1), some (.int s6.1), some (.int s6.2)] [.int q18] _
      refine s_ifeq (pc := 20) 53 dX10_changedBack_20 rfl ?_ ?_
      · exact s_drop (hR11 () Le.rf) trivial
      · refine s_aload_n (pc := 23) 0 dX10_changedBack_23 rfl rfl ?_
        refine s_geto (pc := 24) F_10 5 rfl o1 dX10_changedBack_24 kf_X10_27 ?_
        refine s_rvB (fun r21 => ?_)
        refine s_iload_n (pc := 27) 2 dX10_changedBack_27 rfl rfl ?_
        refine s_grd (fun o22 => ?_)
        refine s_grd (fun i23 => ?_)
        refine s_iald (pc := 28) o22 i23 dX10_changedBack_28 ?_
        refine s_aload_n (pc := 29) 0 dX10_changedBack_29 rfl rfl ?_
        refine s_geto (pc := 30) F_10 5 rfl o1 dX10_changedBack_30 kf_X10_27 ?_
        refine s_rvB (fun r24 => ?_)
        refine s_iload_n (pc := 33) 1 dX10_changedBack_33 rfl rfl ?_
        refine s_grd (fun o25 => ?_)
        refine s_grd (fun i26 => ?_)
        refine s_iald (pc := 34) o25 i26 dX10_changedBack_34 ?_
        refine s_icne (pc := 35) 40 dX10_changedBack_35 rfl ?_ ?_
        · refine s_aload_n (pc := 40) 0 dX10_changedBack_40 rfl rfl ?_
          refine s_geto (pc := 41) F_10 3 rfl o1 dX10_changedBack_41 kf_X10_21 ?_
          refine s_rvB (fun r27 => ?_)
          refine s_iload_n (pc := 44) 2 dX10_changedBack_44 rfl rfl ?_
          refine s_grd (fun o28 => ?_)
          refine s_grd (fun i29 => ?_)
          refine s_iald (pc := 45) o28 i29 dX10_changedBack_45 ?_
          refine s_istore_n (pc := 46) 2 dX10_changedBack_46 rfl (nlt rfl) rfl (L' := [some (.ref (gh (xG X) + a0)), some (.int p1), some (.int (mI M r27 s6.1.toNatClampNeg)), some (.int s6.2)]) rfl ?_
          refine s_bv (fun x30 : Int32 => [some (.ref (gh (xG X) + a0)), some (.int p1), some (.int x30), some (.int s6.2)]) (fun x30 => ?_) rfl
          refine s_iinc (pc := 47) dX10_changedBack_47 rfl (v := s6.2 + 1) (congrArg (fun z : Int32 => s6.2 + z) kc_1) (nlt rfl) rfl (L' := [some (.ref (gh (xG X) + a0)), some (.int p1), some (.int x30), some (.int (s6.2 + 1))]) rfl ?_
          refine s_bv (fun x31 : Int32 => [some (.ref (gh (xG X) + a0)), some (.int p1), some (.int x30), some (.int x31)]) (fun x31 => ?_) rfl
          refine s_goto (pc := 50) 9 dX10_changedBack_50 rfl ?_
          exact s_drop (hT9 (x30, x31) Le.rf) (And.intro rfl (And.intro rfl (And.intro rfl (And.intro rfl trivial))))
        · exact s_drop (hR13 s6.2 Le.rf) (And.intro rfl trivial)
set_option maxRecDepth 100000 in
set_option maxHeartbeats 8000000 in
noncomputable def f_X10_gotInstead (M : Mem) (a0 : Nat) (p1 : Int32) : Option Int32 :=
  Option.bind (loopO (σ := Int32 × Int32) (ρ := Unit ⊕ Int32) (fun s1 => if 6 ≤ s1.2 then (some (.inr (.inl ()))) else (Option.bind (f_X11_isThing s1.1) (fun q13 => if q13 = 0 then (some (.inr (.inl ()))) else (grd (okO M 10 a0) (Option.bind (mR M a0 1) (fun r17 => grd (okO M 14 r17) (grd (vp_in s1.1 (mL M r17)) (if (mI M r17 s1.1.toNatClampNeg) = 1 then (some (.inr (.inr s1.1))) else (Option.bind (mR M a0 2) (fun r20 => grd (okO M 14 r20) (grd (vp_in s1.1 (mL M r20)) (bv (mI M r20 s1.1.toNatClampNeg : Int32) (fun x23 => bv (s1.2 + 1 : Int32) (fun x24 => some (.inl (x23, x24)))))))))))))))) (p1, 0)) (Sum.elim (fun (x9 : Unit) => some (-1)) (fun (x11 : Int32) => some x11))
abbrev Y_X10_gotInstead : Sta := (RX10, "gotInstead", cX10_gotInstead, 4, (some .int), 2)
set_option maxRecDepth 100000 in
set_option maxHeartbeats 8000000 in
theorem t_X10_gotInstead {l : Launch} {G : Gh} {M : Mem} {a0 : Nat} {p1 : Int32} {q : Int32} (h : f_X10_gotInstead M a0 p1 = some q) : Ctr l G yX10_gotInstead Y_X10_gotInstead M [.ref (gh G + a0), .int p1] M (some (.int q)) := by
  refine Ctr.of (Y := Y_X10_gotInstead) (L := [some (.ref (gh G + a0)), some (.int p1), none, none]) (t := Option.bind (f_X10_gotInstead M a0 p1) (fun q => some (M, some (.int q)))) (by decide) rfl rfl (nle rfl) (Lof_in 2 _ rfl) (fun X hG hl => ?_) (by rw [h]; rfl)
  subst hG
  subst hl
  unfold f_X10_gotInstead
  refine s_iload_n (pc := 0) 1 dX10_gotInstead_0 rfl rfl ?_
  refine s_istore_n (pc := 1) 2 dX10_gotInstead_1 rfl (nlt rfl) rfl (L' := [some (.ref (gh (xG X) + a0)), some (.int p1), some (.int p1), none]) rfl ?_
  refine s_iconst (pc := 2) 0 dX10_gotInstead_2 kc_0 ?_
  refine s_istore_n (pc := 3) 3 dX10_gotInstead_3 rfl (nlt rfl) rfl (L' := [some (.ref (gh (xG X) + a0)), some (.int p1), some (.int p1), some (.int 0)]) rfl ?_
  refine s_drop (L' := [some (.ref (gh (xG X) + a0)), none, some (.int p1), some (.int 0)]) ?_ (And.intro rfl (And.intro rfl (And.intro rfl trivial)))
  refine s_loop2 M (fun s1 : Int32 × Int32 => M) (fun s1 : Int32 × Int32 => [some (.ref (gh (xG X) + a0)), none, some (.int s1.1), some (.int s1.2)]) (fun x9 : Unit => M) 42 (fun x9 : Unit => [none, none, none, none]) (fun x11 : Int32 => M) 27 (fun x11 : Int32 => [none, none, some (.int x11), none]) (fun x9 hx10 => ?_) (fun x11 hx12 => ?_) (fun T3 R5 R7 hT4 hR6 hR8 s1 hs2 => ?_) (p1, 0) Le.rf
  · show S0 X _ M 42 [none, none, none, none] [] _
    refine s_iconst (pc := 42) (-1) dX10_gotInstead_42 kc_m1 ?_
    exact s_iret rfl dX10_gotInstead_43
  · show S0 X _ M 27 [none, none, some (.int x11), none] [] _
    refine s_iload_n (pc := 27) 2 dX10_gotInstead_27 rfl rfl ?_
    exact s_iret rfl dX10_gotInstead_28
  · show S0 X _ M 4 [some (.ref (gh (xG X) + a0)), none, some (.int s1.1), some (.int s1.2)] [] _
    refine s_iload_n (pc := 4) 3 dX10_gotInstead_4 rfl rfl ?_
    refine s_bipush (pc := 5) 6 dX10_gotInstead_5 kb_6 ?_
    refine s_icge (pc := 7) 42 dX10_gotInstead_7 rfl ?_ ?_
    · exact s_drop (hR6 () Le.rf) trivial
    · refine s_iload_n (pc := 10) 2 dX10_gotInstead_10 rfl rfl ?_
      refine s_bind (fun q13 hq14 => ?_)
      have hC15 := t_X11_isThing (l := xl X) (G := xG X) (M := M) hq14
      refine s_callSN (pc := 11) (As := [.int s1.1]) (st := []) cl_X11_isThing wt_X11_isThing (List.mem_of_getElem? (i := 7) rfl) rfl rfl (nle rfl) (nle rfl) (nle rfl) dX10_gotInstead_11 hC15 ?_
      show S0 X _ M 14 [some (.ref (gh (xG X) + a0)), none, some (.int s1.1), some (.int s1.2)] [.int q13] _
      refine s_ifeq (pc := 14) 42 dX10_gotInstead_14 rfl ?_ ?_
      · exact s_drop (hR6 () Le.rf) trivial
      · refine s_aload_n (pc := 17) 0 dX10_gotInstead_17 rfl rfl ?_
        refine s_grd (fun o16 => ?_)
        refine s_geto (pc := 18) F_10 1 rfl o16 dX10_gotInstead_18 kf_X10_15 ?_
        refine s_rvB (fun r17 => ?_)
        refine s_iload_n (pc := 21) 2 dX10_gotInstead_21 rfl rfl ?_
        refine s_grd (fun o18 => ?_)
        refine s_grd (fun i19 => ?_)
        refine s_iald (pc := 22) o18 i19 dX10_gotInstead_22 ?_
        refine s_iconst (pc := 23) 1 dX10_gotInstead_23 kc_1 ?_
        refine s_icne (pc := 24) 29 dX10_gotInstead_24 rfl ?_ ?_
        · refine s_aload_n (pc := 29) 0 dX10_gotInstead_29 rfl rfl ?_
          refine s_geto (pc := 30) F_10 2 rfl o16 dX10_gotInstead_30 kf_X10_18 ?_
          refine s_rvB (fun r20 => ?_)
          refine s_iload_n (pc := 33) 2 dX10_gotInstead_33 rfl rfl ?_
          refine s_grd (fun o21 => ?_)
          refine s_grd (fun i22 => ?_)
          refine s_iald (pc := 34) o21 i22 dX10_gotInstead_34 ?_
          refine s_istore_n (pc := 35) 2 dX10_gotInstead_35 rfl (nlt rfl) rfl (L' := [some (.ref (gh (xG X) + a0)), none, some (.int (mI M r20 s1.1.toNatClampNeg)), some (.int s1.2)]) rfl ?_
          refine s_bv (fun x23 : Int32 => [some (.ref (gh (xG X) + a0)), none, some (.int x23), some (.int s1.2)]) (fun x23 => ?_) rfl
          refine s_iinc (pc := 36) dX10_gotInstead_36 rfl (v := s1.2 + 1) (congrArg (fun z : Int32 => s1.2 + z) kc_1) (nlt rfl) rfl (L' := [some (.ref (gh (xG X) + a0)), none, some (.int x23), some (.int (s1.2 + 1))]) rfl ?_
          refine s_bv (fun x24 : Int32 => [some (.ref (gh (xG X) + a0)), none, some (.int x23), some (.int x24)]) (fun x24 => ?_) rfl
          refine s_goto (pc := 39) 4 dX10_gotInstead_39 rfl ?_
          exact s_drop (hT4 (x23, x24) Le.rf) (And.intro rfl (And.intro rfl (And.intro rfl trivial)))
        · exact s_drop (hR8 s1.1 Le.rf) (And.intro rfl trivial)
