set_option maxRecDepth 100000 in
set_option maxHeartbeats 8000000 in
noncomputable def f_J6_bitCount_0f7a4 (p0 : Int32) : Option Int32 :=
  bv (p0 - ((ur p0 1) &&& 1431655765) : Int32) (fun x1 => bv ((x1 &&& 858993459) + ((ur x1 2) &&& 858993459) : Int32) (fun x2 => bv ((x2 + (ur x2 4)) &&& 252645135 : Int32) (fun x3 => bv (x3 + (ur x3 8) : Int32) (fun x4 => bv (x4 + (ur x4 16) : Int32) (fun x5 => some (x5 &&& 63))))))
abbrev Y_J6_bitCount_0f7a4 : Sta := (RJ6, "bitCount", cJ6_bitCount_0f7a4, 1, (some .int), 1)
set_option maxRecDepth 100000 in
set_option maxHeartbeats 8000000 in
theorem t_J6_bitCount_0f7a4 {l : Launch} {G : Gh} {M : Mem} {p0 : Int32} {q : Int32} (h : f_J6_bitCount_0f7a4 p0 = some q) : Ctr l G yJ6_bitCount_0f7a4 Y_J6_bitCount_0f7a4 M [.int p0] M (some (.int q)) := by
  refine Ctr.of (Y := Y_J6_bitCount_0f7a4) (L := [some (.int p0)]) (t := Option.bind (f_J6_bitCount_0f7a4 p0) (fun q => some (M, some (.int q)))) (by decide) rfl rfl (nle rfl) (Lof_in 0 _ rfl) (fun X hG hl => ?_) (by rw [h]; rfl)
  subst hG
  subst hl
  unfold f_J6_bitCount_0f7a4
  refine s_iload_n (pc := 0) 0 dJ6_bitCount_0f7a4_0 rfl rfl ?_
  refine s_iload_n (pc := 1) 0 dJ6_bitCount_0f7a4_1 rfl rfl ?_
  refine s_iconst (pc := 2) 1 dJ6_bitCount_0f7a4_2 kc_1 ?_
  refine s_iushr (pc := 3) dJ6_bitCount_0f7a4_3 ?_
  refine s_ldcw (pc := 4) dJ6_bitCount_0f7a4_4 ki_J6_265 ?_
  refine s_iand (pc := 7) dJ6_bitCount_0f7a4_7 ?_
  refine s_isub (pc := 8) dJ6_bitCount_0f7a4_8 ?_
  refine s_istore_n (pc := 9) 0 dJ6_bitCount_0f7a4_9 rfl (nlt rfl) rfl (L' := [some (.int (p0 - ((ur p0 1) &&& 1431655765)))]) rfl ?_
  refine s_bv (fun x1 : Int32 => [some (.int x1)]) (fun x1 => ?_) rfl
  refine s_iload_n (pc := 10) 0 dJ6_bitCount_0f7a4_10 rfl rfl ?_
  refine s_ldcw (pc := 11) dJ6_bitCount_0f7a4_11 ki_J6_266 ?_
  refine s_iand (pc := 14) dJ6_bitCount_0f7a4_14 ?_
  refine s_iload_n (pc := 15) 0 dJ6_bitCount_0f7a4_15 rfl rfl ?_
  refine s_iconst (pc := 16) 2 dJ6_bitCount_0f7a4_16 kc_2 ?_
  refine s_iushr (pc := 17) dJ6_bitCount_0f7a4_17 ?_
  refine s_ldcw (pc := 18) dJ6_bitCount_0f7a4_18 ki_J6_266 ?_
  refine s_iand (pc := 21) dJ6_bitCount_0f7a4_21 ?_
  refine s_iadd (pc := 22) dJ6_bitCount_0f7a4_22 ?_
  refine s_istore_n (pc := 23) 0 dJ6_bitCount_0f7a4_23 rfl (nlt rfl) rfl (L' := [some (.int ((x1 &&& 858993459) + ((ur x1 2) &&& 858993459)))]) rfl ?_
  refine s_bv (fun x2 : Int32 => [some (.int x2)]) (fun x2 => ?_) rfl
  refine s_iload_n (pc := 24) 0 dJ6_bitCount_0f7a4_24 rfl rfl ?_
  refine s_iload_n (pc := 25) 0 dJ6_bitCount_0f7a4_25 rfl rfl ?_
  refine s_iconst (pc := 26) 4 dJ6_bitCount_0f7a4_26 kc_4 ?_
  refine s_iushr (pc := 27) dJ6_bitCount_0f7a4_27 ?_
  refine s_iadd (pc := 28) dJ6_bitCount_0f7a4_28 ?_
  refine s_ldcw (pc := 29) dJ6_bitCount_0f7a4_29 ki_J6_267 ?_
  refine s_iand (pc := 32) dJ6_bitCount_0f7a4_32 ?_
  refine s_istore_n (pc := 33) 0 dJ6_bitCount_0f7a4_33 rfl (nlt rfl) rfl (L' := [some (.int ((x2 + (ur x2 4)) &&& 252645135))]) rfl ?_
  refine s_bv (fun x3 : Int32 => [some (.int x3)]) (fun x3 => ?_) rfl
  refine s_iload_n (pc := 34) 0 dJ6_bitCount_0f7a4_34 rfl rfl ?_
  refine s_iload_n (pc := 35) 0 dJ6_bitCount_0f7a4_35 rfl rfl ?_
  refine s_bipush (pc := 36) 8 dJ6_bitCount_0f7a4_36 kb_8 ?_
  refine s_iushr (pc := 38) dJ6_bitCount_0f7a4_38 ?_
  refine s_iadd (pc := 39) dJ6_bitCount_0f7a4_39 ?_
  refine s_istore_n (pc := 40) 0 dJ6_bitCount_0f7a4_40 rfl (nlt rfl) rfl (L' := [some (.int (x3 + (ur x3 8)))]) rfl ?_
  refine s_bv (fun x4 : Int32 => [some (.int x4)]) (fun x4 => ?_) rfl
  refine s_iload_n (pc := 41) 0 dJ6_bitCount_0f7a4_41 rfl rfl ?_
  refine s_iload_n (pc := 42) 0 dJ6_bitCount_0f7a4_42 rfl rfl ?_
  refine s_bipush (pc := 43) 16 dJ6_bitCount_0f7a4_43 kb_16 ?_
  refine s_iushr (pc := 45) dJ6_bitCount_0f7a4_45 ?_
  refine s_iadd (pc := 46) dJ6_bitCount_0f7a4_46 ?_
  refine s_istore_n (pc := 47) 0 dJ6_bitCount_0f7a4_47 rfl (nlt rfl) rfl (L' := [some (.int (x4 + (ur x4 16)))]) rfl ?_
  refine s_bv (fun x5 : Int32 => [some (.int x5)]) (fun x5 => ?_) rfl
  refine s_iload_n (pc := 48) 0 dJ6_bitCount_0f7a4_48 rfl rfl ?_
  refine s_bipush (pc := 49) 63 dJ6_bitCount_0f7a4_49 kb_63 ?_
  refine s_iand (pc := 51) dJ6_bitCount_0f7a4_51 ?_
  exact s_iret rfl dJ6_bitCount_0f7a4_52
set_option maxRecDepth 100000 in
set_option maxHeartbeats 8000000 in
noncomputable def f_J7_fill_53178 (M : Mem) (a0 : Nat) (p1 : Int32) : Option Mem :=
  grd (okO M 14 a0) (bv (nI (mL M a0) : Int32) (fun x2 => Option.bind (loopO (σ := Mem × Int32) (ρ := Mem) (fun s3 => if x2 ≤ s3.2 then (some (.inr s3.1)) else (grd (vp_in s3.2 (mL s3.1 a0)) (bv (wI s3.1 a0 s3.2.toNatClampNeg p1) (fun M13 => bv (s3.2 + 1 : Int32) (fun x17 => some (.inl (M13, x17))))))) (M, 0)) (fun (x10 : Mem) => some x10)))
abbrev Y_J7_fill_53178 : Sta := (RJ7, "fill", cJ7_fill_53178, 4, none, 1)
set_option maxRecDepth 100000 in
set_option maxHeartbeats 8000000 in
theorem t_J7_fill_53178 {l : Launch} {G : Gh} {M : Mem} {a0 : Nat} {p1 : Int32} {q : Mem} (h : f_J7_fill_53178 M a0 p1 = some q) : Ctr l G yJ7_fill_53178 Y_J7_fill_53178 M [.ref (gh G + a0), .int p1] q (none) := by
  refine Ctr.of (Y := Y_J7_fill_53178) (L := [some (.ref (gh G + a0)), some (.int p1), none, none]) (t := Option.bind (f_J7_fill_53178 M a0 p1) (fun q => some (q, (none : Option Value)))) (by decide) rfl rfl (nle rfl) (Lof_in 2 _ rfl) (fun X hG hl => ?_) (by rw [h]; rfl)
  subst hG
  subst hl
  unfold f_J7_fill_53178
  refine s_iconst (pc := 0) 0 dJ7_fill_53178_0 kc_0 ?_
  refine s_istore_n (pc := 1) 2 dJ7_fill_53178_1 rfl (nlt rfl) rfl (L' := [some (.ref (gh (xG X) + a0)), some (.int p1), some (.int 0), none]) rfl ?_
  refine s_aload_n (pc := 2) 0 dJ7_fill_53178_2 rfl rfl ?_
  refine s_grd (fun o1 => ?_)
  refine s_alen (pc := 3) 14 (And.intro (nle rfl) (nle rfl)) o1 dJ7_fill_53178_3 ?_
  refine s_istore_n (pc := 4) 3 dJ7_fill_53178_4 rfl (nlt rfl) rfl (L' := [some (.ref (gh (xG X) + a0)), some (.int p1), some (.int 0), some (.int (nI (mL M a0)))]) rfl ?_
  refine s_bv (fun x2 : Int32 => [some (.ref (gh (xG X) + a0)), some (.int p1), some (.int 0), some (.int x2)]) (fun x2 => ?_) rfl
  refine s_drop (L' := [some (.ref (gh (xG X) + a0)), some (.int p1), some (.int 0), some (.int x2)]) ?_ (And.intro rfl (And.intro rfl (And.intro rfl (And.intro rfl trivial))))
  refine s_loop1 M (fun s3 : Mem × Int32 => s3.1) (fun s3 : Mem × Int32 => [some (.ref (gh (xG X) + a0)), some (.int p1), some (.int s3.2), some (.int x2)]) (fun x10 : Mem => x10) 20 (fun x10 : Mem => [none, none, none, none]) (fun x10 hx11 => ?_) (fun T5 R7 hT6 hR8 s3 hs4 => ?_) (M, 0) Le.rf
  · show S0 X _ x10 20 [none, none, none, none] [] _
    exact s_vret rfl dJ7_fill_53178_20
  · show S0 X _ s3.1 5 [some (.ref (gh (xG X) + a0)), some (.int p1), some (.int s3.2), some (.int x2)] [] _
    have o9 := hs4.ok o1
    refine s_iload_n (pc := 5) 2 dJ7_fill_53178_5 rfl rfl ?_
    refine s_iload_n (pc := 6) 3 dJ7_fill_53178_6 rfl rfl ?_
    refine s_icge (pc := 7) 20 dJ7_fill_53178_7 rfl ?_ ?_
    · exact s_drop (hR8 s3.1 hs4) trivial
    · refine s_aload_n (pc := 10) 0 dJ7_fill_53178_10 rfl rfl ?_
      refine s_iload_n (pc := 11) 2 dJ7_fill_53178_11 rfl rfl ?_
      refine s_iload_n (pc := 12) 1 dJ7_fill_53178_12 rfl rfl ?_
      refine s_grd (fun i12 => ?_)
      refine s_iast (pc := 13) o9 i12 dJ7_fill_53178_13 (fun M13 hM14 => ?_)
      have h15 := le_wI hM14
      have o16 := h15.ok o9
      refine s_iinc (pc := 14) dJ7_fill_53178_14 rfl (v := s3.2 + 1) (congrArg (fun z : Int32 => s3.2 + z) kc_1) (nlt rfl) rfl (L' := [some (.ref (gh (xG X) + a0)), some (.int p1), some (.int (s3.2 + 1)), some (.int x2)]) rfl ?_
      refine s_bv (fun x17 : Int32 => [some (.ref (gh (xG X) + a0)), some (.int p1), some (.int x17), some (.int x2)]) (fun x17 => ?_) rfl
      refine s_goto (pc := 17) 5 dJ7_fill_53178_17 rfl ?_
      exact s_drop (hT6 (M13, x17) (hs4.tr h15)) (And.intro rfl (And.intro rfl (And.intro rfl (And.intro rfl trivial))))
set_option maxRecDepth 100000 in
set_option maxHeartbeats 8000000 in
noncomputable def f_J7_fill_d0a16 (M : Mem) (a0 : Nat) (p1 : Int64) : Option Mem :=
  grd (okO M 15 a0) (bv (nI (mL M a0) : Int32) (fun x2 => Option.bind (loopO (σ := Mem × Int32) (ρ := Mem) (fun s3 => if x2 ≤ s3.2 then (some (.inr s3.1)) else (grd (vp_in s3.2 (mL s3.1 a0)) (bv (wJ s3.1 a0 s3.2.toNatClampNeg p1) (fun M13 => bv (s3.2 + 1 : Int32) (fun x17 => some (.inl (M13, x17))))))) (M, 0)) (fun (x10 : Mem) => some x10)))
abbrev Y_J7_fill_d0a16 : Sta := (RJ7, "fill", cJ7_fill_d0a16, 5, none, 1)
set_option maxRecDepth 100000 in
set_option maxHeartbeats 8000000 in
theorem t_J7_fill_d0a16 {l : Launch} {G : Gh} {M : Mem} {a0 : Nat} {p1 : Int64} {q : Mem} (h : f_J7_fill_d0a16 M a0 p1 = some q) : Ctr l G yJ7_fill_d0a16 Y_J7_fill_d0a16 M [.ref (gh G + a0), .long p1] q (none) := by
  refine Ctr.of (Y := Y_J7_fill_d0a16) (L := [some (.ref (gh G + a0)), some (.long p1), none, none, none]) (t := Option.bind (f_J7_fill_d0a16 M a0 p1) (fun q => some (q, (none : Option Value)))) (by decide) rfl rfl (nle rfl) (Lof_in 2 _ rfl) (fun X hG hl => ?_) (by rw [h]; rfl)
  subst hG
  subst hl
  unfold f_J7_fill_d0a16
  refine s_iconst (pc := 0) 0 dJ7_fill_d0a16_0 kc_0 ?_
  refine s_istore_n (pc := 1) 3 dJ7_fill_d0a16_1 rfl (nlt rfl) rfl (L' := [some (.ref (gh (xG X) + a0)), some (.long p1), none, some (.int 0), none]) rfl ?_
  refine s_aload_n (pc := 2) 0 dJ7_fill_d0a16_2 rfl rfl ?_
  refine s_grd (fun o1 => ?_)
  refine s_alen (pc := 3) 15 (And.intro (nle rfl) (nle rfl)) o1 dJ7_fill_d0a16_3 ?_
  refine s_istore (pc := 4) dJ7_fill_d0a16_4 (nlt rfl) rfl (L' := [some (.ref (gh (xG X) + a0)), some (.long p1), none, some (.int 0), some (.int (nI (mL M a0)))]) rfl ?_
  refine s_bv (fun x2 : Int32 => [some (.ref (gh (xG X) + a0)), some (.long p1), none, some (.int 0), some (.int x2)]) (fun x2 => ?_) rfl
  refine s_drop (L' := [some (.ref (gh (xG X) + a0)), some (.long p1), none, some (.int 0), some (.int x2)]) ?_ (And.intro rfl (And.intro rfl (And.intro rfl (And.intro rfl trivial))))
  refine s_loop1 M (fun s3 : Mem × Int32 => s3.1) (fun s3 : Mem × Int32 => [some (.ref (gh (xG X) + a0)), some (.long p1), none, some (.int s3.2), some (.int x2)]) (fun x10 : Mem => x10) 22 (fun x10 : Mem => [none, none, none, none, none]) (fun x10 hx11 => ?_) (fun T5 R7 hT6 hR8 s3 hs4 => ?_) (M, 0) Le.rf
  · show S0 X _ x10 22 [none, none, none, none, none] [] _
    exact s_vret rfl dJ7_fill_d0a16_22
  · show S0 X _ s3.1 6 [some (.ref (gh (xG X) + a0)), some (.long p1), none, some (.int s3.2), some (.int x2)] [] _
    have o9 := hs4.ok o1
    refine s_iload_n (pc := 6) 3 dJ7_fill_d0a16_6 rfl rfl ?_
    refine s_iload (pc := 7) dJ7_fill_d0a16_7 rfl ?_
    refine s_icge (pc := 9) 22 dJ7_fill_d0a16_9 rfl ?_ ?_
    · exact s_drop (hR8 s3.1 hs4) trivial
    · refine s_aload_n (pc := 12) 0 dJ7_fill_d0a16_12 rfl rfl ?_
      refine s_iload_n (pc := 13) 3 dJ7_fill_d0a16_13 rfl rfl ?_
      refine s_lload_n (pc := 14) 1 dJ7_fill_d0a16_14 rfl rfl ?_
      refine s_grd (fun i12 => ?_)
      refine s_last (pc := 15) o9 i12 dJ7_fill_d0a16_15 (fun M13 hM14 => ?_)
      have h15 := le_wJ hM14
      have o16 := h15.ok o9
      refine s_iinc (pc := 16) dJ7_fill_d0a16_16 rfl (v := s3.2 + 1) (congrArg (fun z : Int32 => s3.2 + z) kc_1) (nlt rfl) rfl (L' := [some (.ref (gh (xG X) + a0)), some (.long p1), none, some (.int (s3.2 + 1)), some (.int x2)]) rfl ?_
      refine s_bv (fun x17 : Int32 => [some (.ref (gh (xG X) + a0)), some (.long p1), none, some (.int x17), some (.int x2)]) (fun x17 => ?_) rfl
      refine s_goto (pc := 19) 6 dJ7_fill_d0a16_19 rfl ?_
      exact s_drop (hT6 (M13, x17) (hs4.tr h15)) (And.intro rfl (And.intro rfl (And.intro rfl (And.intro rfl trivial))))
set_option maxRecDepth 100000 in
set_option maxHeartbeats 8000000 in
noncomputable def f_J7_fill_fb410 (M : Mem) (a0 : Nat) (p1 : Int32) : Option Mem :=
  grd (okO M 16 a0) (bv (nI (mL M a0) : Int32) (fun x2 => Option.bind (loopO (σ := Mem × Int32) (ρ := Mem) (fun s3 => if x2 ≤ s3.2 then (some (.inr s3.1)) else (grd (vp_in s3.2 (mL s3.1 a0)) (bv (wI s3.1 a0 s3.2.toNatClampNeg (vp_nar .short p1)) (fun M13 => bv (s3.2 + 1 : Int32) (fun x17 => some (.inl (M13, x17))))))) (M, 0)) (fun (x10 : Mem) => some x10)))
abbrev Y_J7_fill_fb410 : Sta := (RJ7, "fill", cJ7_fill_fb410, 4, none, 1)
set_option maxRecDepth 100000 in
set_option maxHeartbeats 8000000 in
theorem t_J7_fill_fb410 {l : Launch} {G : Gh} {M : Mem} {a0 : Nat} {p1 : Int32} {q : Mem} (h : f_J7_fill_fb410 M a0 p1 = some q) : Ctr l G yJ7_fill_fb410 Y_J7_fill_fb410 M [.ref (gh G + a0), .int p1] q (none) := by
  refine Ctr.of (Y := Y_J7_fill_fb410) (L := [some (.ref (gh G + a0)), some (.int p1), none, none]) (t := Option.bind (f_J7_fill_fb410 M a0 p1) (fun q => some (q, (none : Option Value)))) (by decide) rfl rfl (nle rfl) (Lof_in 2 _ rfl) (fun X hG hl => ?_) (by rw [h]; rfl)
  subst hG
  subst hl
  unfold f_J7_fill_fb410
  refine s_iconst (pc := 0) 0 dJ7_fill_fb410_0 kc_0 ?_
  refine s_istore_n (pc := 1) 2 dJ7_fill_fb410_1 rfl (nlt rfl) rfl (L' := [some (.ref (gh (xG X) + a0)), some (.int p1), some (.int 0), none]) rfl ?_
  refine s_aload_n (pc := 2) 0 dJ7_fill_fb410_2 rfl rfl ?_
  refine s_grd (fun o1 => ?_)
  refine s_alen (pc := 3) 16 (And.intro (nle rfl) (nle rfl)) o1 dJ7_fill_fb410_3 ?_
  refine s_istore_n (pc := 4) 3 dJ7_fill_fb410_4 rfl (nlt rfl) rfl (L' := [some (.ref (gh (xG X) + a0)), some (.int p1), some (.int 0), some (.int (nI (mL M a0)))]) rfl ?_
  refine s_bv (fun x2 : Int32 => [some (.ref (gh (xG X) + a0)), some (.int p1), some (.int 0), some (.int x2)]) (fun x2 => ?_) rfl
  refine s_drop (L' := [some (.ref (gh (xG X) + a0)), some (.int p1), some (.int 0), some (.int x2)]) ?_ (And.intro rfl (And.intro rfl (And.intro rfl (And.intro rfl trivial))))
  refine s_loop1 M (fun s3 : Mem × Int32 => s3.1) (fun s3 : Mem × Int32 => [some (.ref (gh (xG X) + a0)), some (.int p1), some (.int s3.2), some (.int x2)]) (fun x10 : Mem => x10) 20 (fun x10 : Mem => [none, none, none, none]) (fun x10 hx11 => ?_) (fun T5 R7 hT6 hR8 s3 hs4 => ?_) (M, 0) Le.rf
  · show S0 X _ x10 20 [none, none, none, none] [] _
    exact s_vret rfl dJ7_fill_fb410_20
  · show S0 X _ s3.1 5 [some (.ref (gh (xG X) + a0)), some (.int p1), some (.int s3.2), some (.int x2)] [] _
    have o9 := hs4.ok o1
    refine s_iload_n (pc := 5) 2 dJ7_fill_fb410_5 rfl rfl ?_
    refine s_iload_n (pc := 6) 3 dJ7_fill_fb410_6 rfl rfl ?_
    refine s_icge (pc := 7) 20 dJ7_fill_fb410_7 rfl ?_ ?_
    · exact s_drop (hR8 s3.1 hs4) trivial
    · refine s_aload_n (pc := 10) 0 dJ7_fill_fb410_10 rfl rfl ?_
      refine s_iload_n (pc := 11) 2 dJ7_fill_fb410_11 rfl rfl ?_
      refine s_iload_n (pc := 12) 1 dJ7_fill_fb410_12 rfl rfl ?_
      refine s_grd (fun i12 => ?_)
      refine s_sast (pc := 13) o9 i12 dJ7_fill_fb410_13 (fun M13 hM14 => ?_)
      have h15 := le_wI hM14
      have o16 := h15.ok o9
      refine s_iinc (pc := 14) dJ7_fill_fb410_14 rfl (v := s3.2 + 1) (congrArg (fun z : Int32 => s3.2 + z) kc_1) (nlt rfl) rfl (L' := [some (.ref (gh (xG X) + a0)), some (.int p1), some (.int (s3.2 + 1)), some (.int x2)]) rfl ?_
      refine s_bv (fun x17 : Int32 => [some (.ref (gh (xG X) + a0)), some (.int p1), some (.int x17), some (.int x2)]) (fun x17 => ?_) rfl
      refine s_goto (pc := 17) 5 dJ7_fill_fb410_17 rfl ?_
      exact s_drop (hT6 (M13, x17) (hs4.tr h15)) (And.intro rfl (And.intro rfl (And.intro rfl (And.intro rfl trivial))))
set_option maxRecDepth 100000 in
set_option maxHeartbeats 8000000 in
noncomputable def f_X0_handOn (M : Mem) (a0 : Nat) (p1 : Int32) : Option Mem :=
  grd (okO M 0 a0) (Option.bind (mR M a0 2) (fun r2 => grd (okO M 1 r2) (if 0 < (mI M r2 6) then (Option.bind (loopO (σ := Mem × Int32) (ρ := Mem) (fun s4 => Option.bind (mR s4.1 a0 2) (fun r13 => grd (okO s4.1 1 r13) (if (mI s4.1 r13 5) ≤ s4.2 then (some (.inr s4.1)) else (Option.bind (mR s4.1 a0 4) (fun r15 => Option.bind (mR s4.1 a0 2) (fun r16 => grd (okO s4.1 1 r16) (Option.bind (mR s4.1 r16 3) (fun r18 => grd (okO s4.1 14 r18) (grd (vp_in s4.2 (mL s4.1 r18)) (grd (okO s4.1 15 r15) (grd (vp_in (mI s4.1 r18 s4.2.toNatClampNeg) (mL s4.1 r15)) (Option.bind (mR s4.1 a0 3) (fun r23 => grd (okO s4.1 15 r23) (grd (vp_in p1 (mL s4.1 r23)) (Option.bind (mR s4.1 a0 2) (fun r26 => grd (okO s4.1 1 r26) (Option.bind (mR s4.1 r26 4) (fun r28 => grd (okO s4.1 14 r28) (grd (vp_in s4.2 (mL s4.1 r28)) (Option.bind (mR s4.1 a0 2) (fun r31 => grd (okO s4.1 1 r31) (grd (¬ ((mI s4.1 r31 6).toInt64) = 0) (bv (wJ s4.1 r15 (mI s4.1 r18 s4.2.toNatClampNeg).toNatClampNeg ((mJ s4.1 r15 (mI s4.1 r18 s4.2.toNatClampNeg).toNatClampNeg) + (((mJ s4.1 r23 p1.toNatClampNeg) * ((mI s4.1 r28 s4.2.toNatClampNeg).toInt64)) / ((mI s4.1 r31 6).toInt64)))) (fun M34 => bv (s4.2 + 1 : Int32) (fun x38 => some (.inl (M34, x38))))))))))))))))))))))))))) (M, 0)) (fun (x11 : Mem) => some x11)) else (Option.bind (mR M a0 4) (fun r39 => grd (okO M 15 r39) (grd (vp_in p1 (mL M r39)) (Option.bind (mR M a0 3) (fun r42 => grd (okO M 15 r42) (grd (vp_in p1 (mL M r42)) (bv (wJ M r39 p1.toNatClampNeg ((mJ M r39 p1.toNatClampNeg) + (mJ M r42 p1.toNatClampNeg))) (fun M45 => some M45)))))))))))
abbrev Y_X0_handOn : Sta := (RX0, "handOn", cX0_handOn, 3, none, 1)
set_option maxRecDepth 100000 in
set_option maxHeartbeats 8000000 in
theorem t_X0_handOn {l : Launch} {G : Gh} {M : Mem} {a0 : Nat} {p1 : Int32} {q : Mem} (h : f_X0_handOn M a0 p1 = some q) : Ctr l G yX0_handOn Y_X0_handOn M [.ref (gh G + a0), .int p1] q (none) := by
  refine Ctr.of (Y := Y_X0_handOn) (L := [some (.ref (gh G + a0)), some (.int p1), none]) (t := Option.bind (f_X0_handOn M a0 p1) (fun q => some (q, (none : Option Value)))) (by decide) rfl rfl (nle rfl) (Lof_in 1 _ rfl) (fun X hG hl => ?_) (by rw [h]; rfl)
  subst hG
  subst hl
  unfold f_X0_handOn
  refine s_aload_n (pc := 0) 0 dX0_handOn_0 rfl rfl ?_
  refine s_grd (fun o1 => ?_)
  refine s_geto (pc := 1) F_0 2 rfl o1 dX0_handOn_1 kf_X0_30 ?_
  refine s_rvB (fun r2 => ?_)
  refine s_grd (fun o3 => ?_)
  refine s_geti (pc := 4) F_1 6 rfl o3 dX0_handOn_4 kf_X0_69 ?_
  refine s_ifgt (pc := 7) 26 dX0_handOn_7 rfl ?_ ?_
  · refine s_iconst (pc := 26) 0 dX0_handOn_26 kc_0 ?_
    refine s_istore_n (pc := 27) 2 dX0_handOn_27 rfl (nlt rfl) rfl (L' := [some (.ref (gh (xG X) + a0)), some (.int p1), some (.int 0)]) rfl ?_
    refine s_drop (L' := [some (.ref (gh (xG X) + a0)), some (.int p1), some (.int 0)]) ?_ (And.intro rfl (And.intro rfl (And.intro rfl trivial)))
    refine s_loop1 M (fun s4 : Mem × Int32 => s4.1) (fun s4 : Mem × Int32 => [some (.ref (gh (xG X) + a0)), some (.int p1), some (.int s4.2)]) (fun x11 : Mem => x11) 88 (fun x11 : Mem => [none, none, none]) (fun x11 hx12 => ?_) (fun T6 R8 hT7 hR9 s4 hs5 => ?_) (M, 0) Le.rf
    · show S0 X _ x11 88 [none, none, none] [] _
      exact s_vret rfl dX0_handOn_88
    · show S0 X _ s4.1 28 [some (.ref (gh (xG X) + a0)), some (.int p1), some (.int s4.2)] [] _
      have o10 := hs5.ok o1
      refine s_iload_n (pc := 28) 2 dX0_handOn_28 rfl rfl ?_
      refine s_aload_n (pc := 29) 0 dX0_handOn_29 rfl rfl ?_
      refine s_geto (pc := 30) F_0 2 rfl o10 dX0_handOn_30 kf_X0_30 ?_
      refine s_rvB (fun r13 => ?_)
      refine s_grd (fun o14 => ?_)
      refine s_geti (pc := 33) F_1 5 rfl o14 dX0_handOn_33 kf_X0_72 ?_
      refine s_icge (pc := 36) 88 dX0_handOn_36 rfl ?_ ?_
      · exact s_drop (hR9 s4.1 hs5) trivial
      · refine s_aload_n (pc := 39) 0 dX0_handOn_39 rfl rfl ?_
        refine s_geto (pc := 40) F_0 4 rfl o10 dX0_handOn_40 kf_X0_15 ?_
        refine s_rvB (fun r15 => ?_)
        refine s_aload_n (pc := 43) 0 dX0_handOn_43 rfl rfl ?_
        refine s_geto (pc := 44) F_0 2 rfl o10 dX0_handOn_44 kf_X0_30 ?_
        refine s_rvB (fun r16 => ?_)
        refine s_grd (fun o17 => ?_)
        refine s_geto (pc := 47) F_1 3 rfl o17 dX0_handOn_47 kf_X0_75 ?_
        refine s_rvB (fun r18 => ?_)
        refine s_iload_n (pc := 50) 2 dX0_handOn_50 rfl rfl ?_
        refine s_grd (fun o19 => ?_)
        refine s_grd (fun i20 => ?_)
        refine s_iald (pc := 51) o19 i20 dX0_handOn_51 ?_
        refine s_dup2 (pc := 52) dX0_handOn_52 rfl rfl ?_
        refine s_grd (fun o21 => ?_)
        refine s_grd (fun i22 => ?_)
        refine s_lald (pc := 53) o21 i22 dX0_handOn_53 ?_
        refine s_aload_n (pc := 54) 0 dX0_handOn_54 rfl rfl ?_
        refine s_geto (pc := 55) F_0 3 rfl o10 dX0_handOn_55 kf_X0_9 ?_
        refine s_rvB (fun r23 => ?_)
        refine s_iload_n (pc := 58) 1 dX0_handOn_58 rfl rfl ?_
        refine s_grd (fun o24 => ?_)
        refine s_grd (fun i25 => ?_)
        refine s_lald (pc := 59) o24 i25 dX0_handOn_59 ?_
        refine s_aload_n (pc := 60) 0 dX0_handOn_60 rfl rfl ?_
        refine s_geto (pc := 61) F_0 2 rfl o10 dX0_handOn_61 kf_X0_30 ?_
        refine s_rvB (fun r26 => ?_)
        refine s_grd (fun o27 => ?_)
        refine s_geto (pc := 64) F_1 4 rfl o27 dX0_handOn_64 kf_X0_79 ?_
        refine s_rvB (fun r28 => ?_)
        refine s_iload_n (pc := 67) 2 dX0_handOn_67 rfl rfl ?_
        refine s_grd (fun o29 => ?_)
        refine s_grd (fun i30 => ?_)
        refine s_iald (pc := 68) o29 i30 dX0_handOn_68 ?_
        refine s_i2l (pc := 69) dX0_handOn_69 ?_
        refine s_lmul (pc := 70) dX0_handOn_70 ?_
        refine s_aload_n (pc := 71) 0 dX0_handOn_71 rfl rfl ?_
        refine s_geto (pc := 72) F_0 2 rfl o10 dX0_handOn_72 kf_X0_30 ?_
        refine s_rvB (fun r31 => ?_)
        refine s_grd (fun o32 => ?_)
        refine s_geti (pc := 75) F_1 6 rfl o32 dX0_handOn_75 kf_X0_69 ?_
        refine s_i2l (pc := 78) dX0_handOn_78 ?_
        refine s_grd (fun g33 => ?_)
        refine s_ldiv (pc := 79) dX0_handOn_79 g33 ?_
        refine s_ladd (pc := 80) dX0_handOn_80 ?_
        refine s_last (pc := 81) o21 i22 dX0_handOn_81 (fun M34 hM35 => ?_)
        have h36 := le_wJ hM35
        have o37 := h36.ok o10
        refine s_iinc (pc := 82) dX0_handOn_82 rfl (v := s4.2 + 1) (congrArg (fun z : Int32 => s4.2 + z) kc_1) (nlt rfl) rfl (L' := [some (.ref (gh (xG X) + a0)), some (.int p1), some (.int (s4.2 + 1))]) rfl ?_
        refine s_bv (fun x38 : Int32 => [some (.ref (gh (xG X) + a0)), some (.int p1), some (.int x38)]) (fun x38 => ?_) rfl
        refine s_goto (pc := 85) 28 dX0_handOn_85 rfl ?_
        exact s_drop (hT7 (M34, x38) (hs5.tr h36)) (And.intro rfl (And.intro rfl (And.intro rfl trivial)))
  · refine s_aload_n (pc := 10) 0 dX0_handOn_10 rfl rfl ?_
    refine s_geto (pc := 11) F_0 4 rfl o1 dX0_handOn_11 kf_X0_15 ?_
    refine s_rvB (fun r39 => ?_)
    refine s_iload_n (pc := 14) 1 dX0_handOn_14 rfl rfl ?_
    refine s_dup2 (pc := 15) dX0_handOn_15 rfl rfl ?_
    refine s_grd (fun o40 => ?_)
    refine s_grd (fun i41 => ?_)
    refine s_lald (pc := 16) o40 i41 dX0_handOn_16 ?_
    refine s_aload_n (pc := 17) 0 dX0_handOn_17 rfl rfl ?_
    refine s_geto (pc := 18) F_0 3 rfl o1 dX0_handOn_18 kf_X0_9 ?_
    refine s_rvB (fun r42 => ?_)
    refine s_iload_n (pc := 21) 1 dX0_handOn_21 rfl rfl ?_
    refine s_grd (fun o43 => ?_)
    refine s_grd (fun i44 => ?_)
    refine s_lald (pc := 22) o43 i44 dX0_handOn_22 ?_
    refine s_ladd (pc := 23) dX0_handOn_23 ?_
    refine s_last (pc := 24) o40 i41 dX0_handOn_24 (fun M45 hM46 => ?_)
    have h47 := le_wJ hM46
    have o48 := h47.ok o1
    exact s_vret rfl dX0_handOn_25
set_option maxRecDepth 100000 in
set_option maxHeartbeats 8000000 in
noncomputable def f_X0_init (M : Mem) (a0 : Nat) (a1 : Nat) (a2 : Nat) (a3 : Nat) : Option Mem :=
  bv (nA M 15 (0 : Int32).toNatClampNeg) (fun M1 => grd (okO M1 0 a0) (bv (wR M1 a0 3 (some (mn M))) (fun M6 => bv (nA M6 15 (0 : Int32).toNatClampNeg) (fun M10 => bv (wR M10 a0 4 (some (mn M6))) (fun M15 => bv (wI M15 a0 6 (-1)) (fun M19 => bv (wR M19 a0 0 (some a1)) (fun M23 => bv (wR M23 a0 1 (some a2)) (fun M27 => bv (wR M27 a0 2 (some a3)) (fun M31 => some M31)))))))))
abbrev Y_X0_init : Sta := (RX0, "<init>", cX0_init, 4, none, 1)
set_option maxRecDepth 100000 in
set_option maxHeartbeats 8000000 in
theorem t_X0_init {l : Launch} {G : Gh} {M : Mem} {a0 : Nat} {a1 : Nat} {a2 : Nat} {a3 : Nat} {q : Mem} (h : f_X0_init M a0 a1 a2 a3 = some q) : Ctr l G yX0_init Y_X0_init M [.ref (gh G + a0), .ref (gh G + a1), .ref (gh G + a2), .ref (gh G + a3)] q (none) := by
  refine Ctr.of (Y := Y_X0_init) (L := [some (.ref (gh G + a0)), some (.ref (gh G + a1)), some (.ref (gh G + a2)), some (.ref (gh G + a3))]) (t := Option.bind (f_X0_init M a0 a1 a2 a3) (fun q => some (q, (none : Option Value)))) (by decide) rfl rfl (nle rfl) (Lof_in 0 _ rfl) (fun X hG hl => ?_) (by rw [h]; rfl)
  subst hG
  subst hl
  unfold f_X0_init
  refine s_aload_n (pc := 0) 0 dX0_init_0 rfl rfl ?_
  refine s_obj (pc := 1) km_X0_3 wi_obj wc_obj (nle rfl) (nle rfl) dX0_init_1 ?_
  refine s_aload_n (pc := 4) 0 dX0_init_4 rfl rfl ?_
  refine s_iconst (pc := 5) 0 dX0_init_5 kc_0 ?_
  refine s_newa_long (pc := 6) (And.intro (by decide) (by decide)) dX0_init_6 wa_long (fun M1 hM2 => ?_)
  have h3 := le_nA hM2
  have o4 := ok_nA hM2
  refine s_grd (fun o5 => ?_)
  refine s_putr (pc := 8) F_0 3 rfl o5 rfl rfl rfl dX0_init_8 kf_X0_9 (fun M6 hM7 => ?_)
  have h8 := le_wR hM7
  have o9 := h8.ok o5
  refine s_aload_n (pc := 11) 0 dX0_init_11 rfl rfl ?_
  refine s_iconst (pc := 12) 0 dX0_init_12 kc_0 ?_
  refine s_newa_long (pc := 13) (And.intro (by decide) (by decide)) dX0_init_13 wa_long (fun M10 hM11 => ?_)
  have h12 := le_nA hM11
  have o13 := h12.ok o9
  have o14 := ok_nA hM11
  refine s_putr (pc := 15) F_0 4 rfl o13 rfl rfl rfl dX0_init_15 kf_X0_15 (fun M15 hM16 => ?_)
  have h17 := le_wR hM16
  have o18 := h17.ok o13
  refine s_aload_n (pc := 18) 0 dX0_init_18 rfl rfl ?_
  refine s_iconst (pc := 19) (-1) dX0_init_19 kc_m1 ?_
  refine s_puti (pc := 20) F_0 6 rfl o18 rfl rfl rfl dX0_init_20 kf_X0_18 (fun M19 hM20 => ?_)
  have h21 := le_wI hM20
  have o22 := h21.ok o18
  refine s_aload_n (pc := 23) 0 dX0_init_23 rfl rfl ?_
  refine s_aload_n (pc := 24) 1 dX0_init_24 rfl rfl ?_
  refine s_putrF (pc := 25) F_0 0 rfl o22 rfl rfl rfl rfl rfl dX0_init_25 kf_X0_22 (fun M23 hM24 => ?_)
  have h25 := le_wR hM24
  have o26 := h25.ok o22
  refine s_aload_n (pc := 28) 0 dX0_init_28 rfl rfl ?_
  refine s_aload_n (pc := 29) 2 dX0_init_29 rfl rfl ?_
  refine s_putrF (pc := 30) F_0 1 rfl o26 rfl rfl rfl rfl rfl dX0_init_30 kf_X0_26 (fun M27 hM28 => ?_)
  have h29 := le_wR hM28
  have o30 := h29.ok o26
  refine s_aload_n (pc := 33) 0 dX0_init_33 rfl rfl ?_
  refine s_aload_n (pc := 34) 3 dX0_init_34 rfl rfl ?_
  refine s_putrF (pc := 35) F_0 2 rfl o30 rfl rfl rfl rfl rfl dX0_init_35 kf_X0_30 (fun M31 hM32 => ?_)
  have h33 := le_wR hM32
  have o34 := h33.ok o30
  exact s_vret rfl dX0_init_38
set_option maxRecDepth 100000 in
set_option maxHeartbeats 8000000 in
noncomputable def f_X0_likeliest (M : Mem) (a0 : Nat) : Option Int32 :=
  Option.bind (loopO (σ := Int32 × Int32) (ρ := Int32) (fun s1 => if 9331 ≤ s1.2 then (some (.inr s1.1)) else (grd (okO M 0 a0) (Option.bind (mR M a0 3) (fun r10 => grd (okO M 15 r10) (grd (vp_in s1.2 (mL M r10)) (Option.bind (mR M a0 3) (fun r13 => grd (okO M 15 r13) (grd (vp_in s1.1 (mL M r13)) (bv (fun (s17 : Int32) => bv (s1.2 + 1 : Int32) (fun x20 => some (.inl (s17, x20)))) (fun j16 => if (lg_cmp (mJ M r10 s1.2.toNatClampNeg) (mJ M r13 s1.1.toNatClampNeg)) ≤ 0 then (j16 s1.1) else (j16 s1.2))))))))))) (0, 1)) (fun (x7 : Int32) => some x7)
abbrev Y_X0_likeliest : Sta := (RX0, "likeliest", cX0_likeliest, 3, (some .int), 1)
set_option maxRecDepth 100000 in
set_option maxHeartbeats 8000000 in
theorem t_X0_likeliest {l : Launch} {G : Gh} {M : Mem} {a0 : Nat} {q : Int32} (h : f_X0_likeliest M a0 = some q) : Ctr l G yX0_likeliest Y_X0_likeliest M [.ref (gh G + a0)] M (some (.int q)) := by
  refine Ctr.of (Y := Y_X0_likeliest) (L := [some (.ref (gh G + a0)), none, none]) (t := Option.bind (f_X0_likeliest M a0) (fun q => some (M, some (.int q)))) (by decide) rfl rfl (nle rfl) (Lof_in 2 _ rfl) (fun X hG hl => ?_) (by rw [h]; rfl)
  subst hG
  subst hl
  unfold f_X0_likeliest
  refine s_iconst (pc := 0) 0 dX0_likeliest_0 kc_0 ?_
  refine s_istore_n (pc := 1) 1 dX0_likeliest_1 rfl (nlt rfl) rfl (L' := [some (.ref (gh (xG X) + a0)), some (.int 0), none]) rfl ?_
  refine s_iconst (pc := 2) 1 dX0_likeliest_2 kc_1 ?_
  refine s_istore_n (pc := 3) 2 dX0_likeliest_3 rfl (nlt rfl) rfl (L' := [some (.ref (gh (xG X) + a0)), some (.int 0), some (.int 1)]) rfl ?_
  refine s_drop (L' := [some (.ref (gh (xG X) + a0)), some (.int 0), some (.int 1)]) ?_ (And.intro rfl (And.intro rfl (And.intro rfl trivial)))
  refine s_loop1 M (fun s1 : Int32 × Int32 => M) (fun s1 : Int32 × Int32 => [some (.ref (gh (xG X) + a0)), some (.int s1.1), some (.int s1.2)]) (fun x7 : Int32 => M) 35 (fun x7 : Int32 => [none, some (.int x7), none]) (fun x7 hx8 => ?_) (fun T3 R5 hT4 hR6 s1 hs2 => ?_) (0, 1) Le.rf
  · show S0 X _ M 35 [none, some (.int x7), none] [] _
    refine s_iload_n (pc := 35) 1 dX0_likeliest_35 rfl rfl ?_
    exact s_iret rfl dX0_likeliest_36
  · show S0 X _ M 4 [some (.ref (gh (xG X) + a0)), some (.int s1.1), some (.int s1.2)] [] _
    refine s_iload_n (pc := 4) 2 dX0_likeliest_4 rfl rfl ?_
    refine s_sipush (pc := 5) 9331 dX0_likeliest_5 ks_9331 ?_
    refine s_icge (pc := 8) 35 dX0_likeliest_8 rfl ?_ ?_
    · exact s_drop (hR6 s1.1 Le.rf) (And.intro rfl trivial)
    · refine s_aload_n (pc := 11) 0 dX0_likeliest_11 rfl rfl ?_
      refine s_grd (fun o9 => ?_)
      refine s_geto (pc := 12) F_0 3 rfl o9 dX0_likeliest_12 kf_X0_9 ?_
      refine s_rvB (fun r10 => ?_)
      refine s_iload_n (pc := 15) 2 dX0_likeliest_15 rfl rfl ?_
      refine s_grd (fun o11 => ?_)
      refine s_grd (fun i12 => ?_)
      refine s_lald (pc := 16) o11 i12 dX0_likeliest_16 ?_
      refine s_aload_n (pc := 17) 0 dX0_likeliest_17 rfl rfl ?_
      refine s_geto (pc := 18) F_0 3 rfl o9 dX0_likeliest_18 kf_X0_9 ?_
      refine s_rvB (fun r13 => ?_)
      refine s_iload_n (pc := 21) 1 dX0_likeliest_21 rfl rfl ?_
      refine s_grd (fun o14 => ?_)
      refine s_grd (fun i15 => ?_)
      refine s_lald (pc := 22) o14 i15 dX0_likeliest_22 ?_
      refine s_lcmp (pc := 23) dX0_likeliest_23 ?_
      refine s_join M (fun s17 : Int32 => M) 29 (fun s17 : Int32 => [some (.ref (gh (xG X) + a0)), some (.int s17), some (.int s1.2)]) (fun s17 : Int32 => []) (fun s17 hs18 => ?_) (fun j16 hj19 => ?_)
      · show S0 X _ M 29 [some (.ref (gh (xG X) + a0)), some (.int s17), some (.int s1.2)] [] _
        refine s_iinc (pc := 29) dX0_likeliest_29 rfl (v := s1.2 + 1) (congrArg (fun z : Int32 => s1.2 + z) kc_1) (nlt rfl) rfl (L' := [some (.ref (gh (xG X) + a0)), some (.int s17), some (.int (s1.2 + 1))]) rfl ?_
        refine s_bv (fun x20 : Int32 => [some (.ref (gh (xG X) + a0)), some (.int s17), some (.int x20)]) (fun x20 => ?_) rfl
        refine s_goto (pc := 32) 4 dX0_likeliest_32 rfl ?_
        exact s_drop (hT4 (s17, x20) Le.rf) (And.intro rfl (And.intro rfl (And.intro rfl trivial)))
      · refine s_ifle (pc := 24) 29 dX0_likeliest_24 rfl ?_ ?_
        · exact s_drop (hj19 s1.1 Le.rf) (And.intro rfl (And.intro rfl (And.intro rfl trivial)))
        · refine s_iload_n (pc := 27) 2 dX0_likeliest_27 rfl rfl ?_
          refine s_istore_n (pc := 28) 1 dX0_likeliest_28 rfl (nlt rfl) rfl (L' := [some (.ref (gh (xG X) + a0)), some (.int s1.2), some (.int s1.2)]) rfl ?_
          exact s_drop (hj19 s1.2 Le.rf) (And.intro rfl (And.intro rfl (And.intro rfl trivial)))
set_option maxRecDepth 100000 in
set_option maxHeartbeats 8000000 in
noncomputable def f_X10_addLaw (M : Mem) (a0 : Nat) (a1 : Nat) : Option (Mem × Int32) :=
  grd (okO M 10 a0) (if (mI M a0 9) < 6 then (Option.bind (mR M a0 7) (fun r2 => grd (okO M 19 r2) (grd (vp_in (mI M a0 9) (mL M r2)) (grd (okO M 9 a1) (bv (wR M r2 (mI M a0 9).toNatClampNeg (some a1)) (fun M6 => bv (wI M6 a0 9 ((mI M6 a0 9) + 1)) (fun M11 => some (M11, (mI M11 a0 9) - 1)))))))) else (some (M, (-5))))
abbrev Y_X10_addLaw : Sta := (RX10, "addLaw", cX10_addLaw, 2, (some .int), 1)
set_option maxRecDepth 100000 in
set_option maxHeartbeats 8000000 in
theorem t_X10_addLaw {l : Launch} {G : Gh} {M : Mem} {a0 : Nat} {a1 : Nat} {q : Mem × Int32} (h : f_X10_addLaw M a0 a1 = some q) : Ctr l G yX10_addLaw Y_X10_addLaw M [.ref (gh G + a0), .ref (gh G + a1)] q.1 (some (.int q.2)) := by
  refine Ctr.of (Y := Y_X10_addLaw) (L := [some (.ref (gh G + a0)), some (.ref (gh G + a1))]) (t := Option.bind (f_X10_addLaw M a0 a1) (fun q => some (q.1, some (.int q.2)))) (by decide) rfl rfl (nle rfl) (Lof_in 0 _ rfl) (fun X hG hl => ?_) (by rw [h]; rfl)
  subst hG
  subst hl
  unfold f_X10_addLaw
  refine s_aload_n (pc := 0) 0 dX10_addLaw_0 rfl rfl ?_
  refine s_grd (fun o1 => ?_)
  refine s_geti (pc := 1) F_10 9 rfl o1 dX10_addLaw_1 kf_X10_58 ?_
  refine s_bipush (pc := 4) 6 dX10_addLaw_4 kb_6 ?_
  refine s_iclt (pc := 6) 12 dX10_addLaw_6 rfl ?_ ?_
  · refine s_aload_n (pc := 12) 0 dX10_addLaw_12 rfl rfl ?_
    refine s_geto (pc := 13) F_10 7 rfl o1 dX10_addLaw_13 kf_X10_35 ?_
    refine s_rvB (fun r2 => ?_)
    refine s_aload_n (pc := 16) 0 dX10_addLaw_16 rfl rfl ?_
    refine s_geti (pc := 17) F_10 9 rfl o1 dX10_addLaw_17 kf_X10_58 ?_
    refine s_aload_n (pc := 20) 1 dX10_addLaw_20 rfl rfl ?_
    refine s_grd (fun o3 => ?_)
    refine s_grd (fun i4 => ?_)
    refine s_grd (fun o5 => ?_)
    refine s_aast (pc := 21) (k := 19) (ci := 9) (t0 := 6) (r := (RX9, TX9, 5)) (by decide) (fun _ => rfl) rfl (nlt rfl) o3 i4 o5 dX10_addLaw_21 (fun M6 hM7 => ?_)
    have h8 := le_wR hM7
    have o9 := h8.ok o1
    have o10 := h8.ok o5
    refine s_aload_n (pc := 22) 0 dX10_addLaw_22 rfl rfl ?_
    refine s_dup (pc := 23) dX10_addLaw_23 rfl ?_
    refine s_geti (pc := 24) F_10 9 rfl o9 dX10_addLaw_24 kf_X10_58 ?_
    refine s_iconst (pc := 27) 1 dX10_addLaw_27 kc_1 ?_
    refine s_iadd (pc := 28) dX10_addLaw_28 ?_
    refine s_puti (pc := 29) F_10 9 rfl o9 rfl rfl rfl dX10_addLaw_29 kf_X10_58 (fun M11 hM12 => ?_)
    have h13 := le_wI hM12
    have o14 := h13.ok o9
    have o15 := h13.ok o10
    refine s_aload_n (pc := 32) 0 dX10_addLaw_32 rfl rfl ?_
    refine s_geti (pc := 33) F_10 9 rfl o14 dX10_addLaw_33 kf_X10_58 ?_
    refine s_iconst (pc := 36) 1 dX10_addLaw_36 kc_1 ?_
    refine s_isub (pc := 37) dX10_addLaw_37 ?_
    exact s_iret rfl dX10_addLaw_38
  · refine s_bipush (pc := 9) (-5) dX10_addLaw_9 kb_m5 ?_
    exact s_iret rfl dX10_addLaw_11
set_option maxRecDepth 100000 in
set_option maxHeartbeats 8000000 in
noncomputable def f_X10_daughtersOf (M : Mem) (a0 : Nat) (p1 : Int32) : Option Int32 :=
  Option.bind (loopO (σ := Int32 × Int32) (ρ := Int32) (fun s1 => grd (okO M 10 a0) (if (mI M a0 8) ≤ s1.2 then (some (.inr s1.1)) else (Option.bind (mR M a0 3) (fun r10 => grd (okO M 14 r10) (grd (vp_in s1.2 (mL M r10)) (bv (fun (s14 : Int32) => bv (s1.1 + s14 : Int32) (fun x17 => bv (s1.2 + 1 : Int32) (fun x18 => some (.inl (x17, x18))))) (fun j13 => if (mI M r10 s1.2.toNatClampNeg) = p1 then (j13 1) else (j13 0)))))))) (0, 0)) (fun (x7 : Int32) => some x7)
abbrev Y_X10_daughtersOf : Sta := (RX10, "daughtersOf", cX10_daughtersOf, 4, (some .int), 1)
set_option maxRecDepth 100000 in
set_option maxHeartbeats 8000000 in
theorem t_X10_daughtersOf {l : Launch} {G : Gh} {M : Mem} {a0 : Nat} {p1 : Int32} {q : Int32} (h : f_X10_daughtersOf M a0 p1 = some q) : Ctr l G yX10_daughtersOf Y_X10_daughtersOf M [.ref (gh G + a0), .int p1] M (some (.int q)) := by
  refine Ctr.of (Y := Y_X10_daughtersOf) (L := [some (.ref (gh G + a0)), some (.int p1), none, none]) (t := Option.bind (f_X10_daughtersOf M a0 p1) (fun q => some (M, some (.int q)))) (by decide) rfl rfl (nle rfl) (Lof_in 2 _ rfl) (fun X hG hl => ?_) (by rw [h]; rfl)
  subst hG
  subst hl
  unfold f_X10_daughtersOf
  refine s_iconst (pc := 0) 0 dX10_daughtersOf_0 kc_0 ?_
  refine s_istore_n (pc := 1) 2 dX10_daughtersOf_1 rfl (nlt rfl) rfl (L' := [some (.ref (gh (xG X) + a0)), some (.int p1), some (.int 0), none]) rfl ?_
  refine s_iconst (pc := 2) 0 dX10_daughtersOf_2 kc_0 ?_
  refine s_istore_n (pc := 3) 3 dX10_daughtersOf_3 rfl (nlt rfl) rfl (L' := [some (.ref (gh (xG X) + a0)), some (.int p1), some (.int 0), some (.int 0)]) rfl ?_
  refine s_drop (L' := [some (.ref (gh (xG X) + a0)), some (.int p1), some (.int 0), some (.int 0)]) ?_ (And.intro rfl (And.intro rfl (And.intro rfl (And.intro rfl trivial))))
  refine s_loop1 M (fun s1 : Int32 × Int32 => M) (fun s1 : Int32 × Int32 => [some (.ref (gh (xG X) + a0)), some (.int p1), some (.int s1.1), some (.int s1.2)]) (fun x7 : Int32 => M) 36 (fun x7 : Int32 => [none, none, some (.int x7), none]) (fun x7 hx8 => ?_) (fun T3 R5 hT4 hR6 s1 hs2 => ?_) (0, 0) Le.rf
  · show S0 X _ M 36 [none, none, some (.int x7), none] [] _
    refine s_iload_n (pc := 36) 2 dX10_daughtersOf_36 rfl rfl ?_
    exact s_iret rfl dX10_daughtersOf_37
  · show S0 X _ M 4 [some (.ref (gh (xG X) + a0)), some (.int p1), some (.int s1.1), some (.int s1.2)] [] _
    refine s_iload_n (pc := 4) 3 dX10_daughtersOf_4 rfl rfl ?_
    refine s_aload_n (pc := 5) 0 dX10_daughtersOf_5 rfl rfl ?_
    refine s_grd (fun o9 => ?_)
    refine s_geti (pc := 6) F_10 8 rfl o9 dX10_daughtersOf_6 kf_X10_55 ?_
    refine s_icge (pc := 9) 36 dX10_daughtersOf_9 rfl ?_ ?_
    · exact s_drop (hR6 s1.1 Le.rf) (And.intro rfl trivial)
    · refine s_iload_n (pc := 12) 2 dX10_daughtersOf_12 rfl rfl ?_
      refine s_aload_n (pc := 13) 0 dX10_daughtersOf_13 rfl rfl ?_
      refine s_geto (pc := 14) F_10 3 rfl o9 dX10_daughtersOf_14 kf_X10_21 ?_
      refine s_rvB (fun r10 => ?_)
      refine s_iload_n (pc := 17) 3 dX10_daughtersOf_17 rfl rfl ?_
      refine s_grd (fun o11 => ?_)
      refine s_grd (fun i12 => ?_)
      refine s_iald (pc := 18) o11 i12 dX10_daughtersOf_18 ?_
      refine s_iload_n (pc := 19) 1 dX10_daughtersOf_19 rfl rfl ?_
      refine s_join M (fun s14 : Int32 => M) 28 (fun s14 : Int32 => [some (.ref (gh (xG X) + a0)), some (.int p1), none, some (.int s1.2)]) (fun s14 : Int32 => [.int s14, .int s1.1]) (fun s14 hs15 => ?_) (fun j13 hj16 => ?_)
      · show S0 X _ M 28 [some (.ref (gh (xG X) + a0)), some (.int p1), none, some (.int s1.2)] [.int s14, .int s1.1] _
        refine s_iadd (pc := 28) dX10_daughtersOf_28 ?_
        refine s_istore_n (pc := 29) 2 dX10_daughtersOf_29 rfl (nlt rfl) rfl (L' := [some (.ref (gh (xG X) + a0)), some (.int p1), some (.int (s1.1 + s14)), some (.int s1.2)]) rfl ?_
        refine s_bv (fun x17 : Int32 => [some (.ref (gh (xG X) + a0)), some (.int p1), some (.int x17), some (.int s1.2)]) (fun x17 => ?_) rfl
        refine s_iinc (pc := 30) dX10_daughtersOf_30 rfl (v := s1.2 + 1) (congrArg (fun z : Int32 => s1.2 + z) kc_1) (nlt rfl) rfl (L' := [some (.ref (gh (xG X) + a0)), some (.int p1), some (.int x17), some (.int (s1.2 + 1))]) rfl ?_
        refine s_bv (fun x18 : Int32 => [some (.ref (gh (xG X) + a0)), some (.int p1), some (.int x17), some (.int x18)]) (fun x18 => ?_) rfl
        refine s_goto (pc := 33) 4 dX10_daughtersOf_33 rfl ?_
        exact s_drop (hT4 (x17, x18) Le.rf) (And.intro rfl (And.intro rfl (And.intro rfl (And.intro rfl trivial))))
      · refine s_icne (pc := 20) 27 dX10_daughtersOf_20 rfl ?_ ?_
        · refine s_iconst (pc := 27) 0 dX10_daughtersOf_27 kc_0 ?_
          exact s_drop (hj16 0 Le.rf) (And.intro rfl (And.intro rfl (And.intro rfl trivial)))
        · refine s_iconst (pc := 23) 1 dX10_daughtersOf_23 kc_1 ?_
          refine s_goto (pc := 24) 28 dX10_daughtersOf_24 rfl ?_
          exact s_drop (hj16 1 Le.rf) (And.intro rfl (And.intro rfl (And.intro rfl trivial)))
set_option maxRecDepth 100000 in
set_option maxHeartbeats 8000000 in
noncomputable def f_X10_hasHouse (M : Mem) (a0 : Nat) (p1 : Int32) : Option Int32 :=
  if p1 < 0 then (some 0) else (grd (okO M 10 a0) (if (mI M a0 8) ≤ p1 then (some 0) else (some 1)))
abbrev Y_X10_hasHouse : Sta := (RX10, "hasHouse", cX10_hasHouse, 2, (some .boolean), 1)
set_option maxRecDepth 100000 in
set_option maxHeartbeats 8000000 in
theorem t_X10_hasHouse {l : Launch} {G : Gh} {M : Mem} {a0 : Nat} {p1 : Int32} {q : Int32} (h : f_X10_hasHouse M a0 p1 = some q) : Ctr l G yX10_hasHouse Y_X10_hasHouse M [.ref (gh G + a0), .int p1] M (some (.int q)) := by
  refine Ctr.of (Y := Y_X10_hasHouse) (L := [some (.ref (gh G + a0)), some (.int p1)]) (t := Option.bind (f_X10_hasHouse M a0 p1) (fun q => some (M, some (.int q)))) (by decide) rfl rfl (nle rfl) (Lof_in 0 _ rfl) (fun X hG hl => ?_) (by rw [h]; rfl)
  subst hG
  subst hl
  unfold f_X10_hasHouse
  refine s_iload_n (pc := 0) 1 dX10_hasHouse_0 rfl rfl ?_
  refine s_iflt (pc := 1) 16 dX10_hasHouse_1 rfl ?_ ?_
  · refine s_iconst (pc := 16) 0 dX10_hasHouse_16 kc_0 ?_
    exact s_zret rfl rfl dX10_hasHouse_17
  · refine s_iload_n (pc := 4) 1 dX10_hasHouse_4 rfl rfl ?_
    refine s_aload_n (pc := 5) 0 dX10_hasHouse_5 rfl rfl ?_
    refine s_grd (fun o1 => ?_)
    refine s_geti (pc := 6) F_10 8 rfl o1 dX10_hasHouse_6 kf_X10_55 ?_
    refine s_icge (pc := 9) 16 dX10_hasHouse_9 rfl ?_ ?_
    · refine s_iconst (pc := 16) 0 dX10_hasHouse_16 kc_0 ?_
      exact s_zret rfl rfl dX10_hasHouse_17
    · refine s_iconst (pc := 12) 1 dX10_hasHouse_12 kc_1 ?_
      refine s_goto (pc := 13) 17 dX10_hasHouse_13 rfl ?_
      exact s_zret rfl rfl dX10_hasHouse_17
set_option maxRecDepth 100000 in
set_option maxHeartbeats 8000000 in
noncomputable def f_X10_holds (M : Mem) (a0 : Nat) (p1 : Int32) (p2 : Int32) : Option Int32 :=
  grd (okO M 10 a0) (Option.bind (mR M a0 6) (fun r2 => grd (okO M 14 r2) (grd (vp_in p1 (mL M r2)) (some ((sr (mI M r2 p1.toNatClampNeg) (3 * p2)) &&& 7)))))
abbrev Y_X10_holds : Sta := (RX10, "holds", cX10_holds, 3, (some .int), 1)
set_option maxRecDepth 100000 in
set_option maxHeartbeats 8000000 in
theorem t_X10_holds {l : Launch} {G : Gh} {M : Mem} {a0 : Nat} {p1 : Int32} {p2 : Int32} {q : Int32} (h : f_X10_holds M a0 p1 p2 = some q) : Ctr l G yX10_holds Y_X10_holds M [.ref (gh G + a0), .int p1, .int p2] M (some (.int q)) := by
  refine Ctr.of (Y := Y_X10_holds) (L := [some (.ref (gh G + a0)), some (.int p1), some (.int p2)]) (t := Option.bind (f_X10_holds M a0 p1 p2) (fun q => some (M, some (.int q)))) (by decide) rfl rfl (nle rfl) (Lof_in 0 _ rfl) (fun X hG hl => ?_) (by rw [h]; rfl)
  subst hG
  subst hl
  unfold f_X10_holds
  refine s_aload_n (pc := 0) 0 dX10_holds_0 rfl rfl ?_
  refine s_grd (fun o1 => ?_)
  refine s_geto (pc := 1) F_10 6 rfl o1 dX10_holds_1 kf_X10_30 ?_
  refine s_rvB (fun r2 => ?_)
  refine s_iload_n (pc := 4) 1 dX10_holds_4 rfl rfl ?_
  refine s_grd (fun o3 => ?_)
  refine s_grd (fun i4 => ?_)
  refine s_iald (pc := 5) o3 i4 dX10_holds_5 ?_
  refine s_iconst (pc := 6) 3 dX10_holds_6 kc_3 ?_
  refine s_iload_n (pc := 7) 2 dX10_holds_7 rfl rfl ?_
  refine s_imul (pc := 8) dX10_holds_8 ?_
  refine s_ishr (pc := 9) dX10_holds_9 ?_
  refine s_bipush (pc := 10) 7 dX10_holds_10 kb_7 ?_
  refine s_iand (pc := 12) dX10_holds_12 ?_
  exact s_iret rfl dX10_holds_13
set_option maxRecDepth 100000 in
set_option maxHeartbeats 8000000 in
noncomputable def f_X10_init (M : Mem) (a0 : Nat) : Option Mem :=
  bv (nA M 14 (6 : Int32).toNatClampNeg) (fun M1 => grd (okO M1 10 a0) (bv (wR M1 a0 0 (some (mn M))) (fun M6 => bv (nA M6 14 (6 : Int32).toNatClampNeg) (fun M10 => grd (vp_in 0 (mL M10 (mn M6))) (bv (wI M10 (mn M6) (0 : Int32).toNatClampNeg 1) (fun M16 => grd (vp_in 1 (mL M16 (mn M6))) (bv (wI M16 (mn M6) (1 : Int32).toNatClampNeg 1) (fun M22 => grd (vp_in 2 (mL M22 (mn M6))) (bv (wI M22 (mn M6) (2 : Int32).toNatClampNeg 1) (fun M28 => grd (vp_in 3 (mL M28 (mn M6))) (bv (wI M28 (mn M6) (3 : Int32).toNatClampNeg 1) (fun M34 => grd (vp_in 4 (mL M34 (mn M6))) (bv (wI M34 (mn M6) (4 : Int32).toNatClampNeg 1) (fun M40 => grd (vp_in 5 (mL M40 (mn M6))) (bv (wI M40 (mn M6) (5 : Int32).toNatClampNeg 1) (fun M46 => bv (wR M46 a0 1 (some (mn M6))) (fun M51 => bv (nA M51 14 (6 : Int32).toNatClampNeg) (fun M55 => grd (vp_in 0 (mL M55 (mn M51))) (bv (wI M55 (mn M51) (0 : Int32).toNatClampNeg (-1)) (fun M61 => grd (vp_in 1 (mL M61 (mn M51))) (bv (wI M61 (mn M51) (1 : Int32).toNatClampNeg (-1)) (fun M67 => grd (vp_in 2 (mL M67 (mn M51))) (bv (wI M67 (mn M51) (2 : Int32).toNatClampNeg (-1)) (fun M73 => grd (vp_in 3 (mL M73 (mn M51))) (bv (wI M73 (mn M51) (3 : Int32).toNatClampNeg (-1)) (fun M79 => grd (vp_in 4 (mL M79 (mn M51))) (bv (wI M79 (mn M51) (4 : Int32).toNatClampNeg (-1)) (fun M85 => grd (vp_in 5 (mL M85 (mn M51))) (bv (wI M85 (mn M51) (5 : Int32).toNatClampNeg (-1)) (fun M91 => bv (wR M91 a0 2 (some (mn M51))) (fun M96 => bv (nA M96 14 (12 : Int32).toNatClampNeg) (fun M100 => bv (wR M100 a0 3 (some (mn M96))) (fun M105 => bv (nA M105 14 (12 : Int32).toNatClampNeg) (fun M109 => bv (wR M109 a0 4 (some (mn M105))) (fun M114 => bv (nA M114 14 (12 : Int32).toNatClampNeg) (fun M118 => bv (wR M118 a0 5 (some (mn M114))) (fun M123 => bv (nA M123 14 (12 : Int32).toNatClampNeg) (fun M127 => bv (wR M127 a0 6 (some (mn M123))) (fun M132 => bv (nA M132 19 (6 : Int32).toNatClampNeg) (fun M136 => bv (wR M136 a0 7 (some (mn M132))) (fun M141 => bv (wI M141 a0 10 (-1)) (fun M145 => bv (wI M145 a0 13 1) (fun M149 => bv (wI M149 a0 14 1) (fun M153 => some M153))))))))))))))))))))))))))))))))))))))))))))
abbrev Y_X10_init : Sta := (RX10, "<init>", cX10_init, 1, none, 1)
set_option maxRecDepth 100000 in
set_option maxHeartbeats 8000000 in
theorem t_X10_init {l : Launch} {G : Gh} {M : Mem} {a0 : Nat} {q : Mem} (h : f_X10_init M a0 = some q) : Ctr l G yX10_init Y_X10_init M [.ref (gh G + a0)] q (none) := by
  refine Ctr.of (Y := Y_X10_init) (L := [some (.ref (gh G + a0))]) (t := Option.bind (f_X10_init M a0) (fun q => some (q, (none : Option Value)))) (by decide) rfl rfl (nle rfl) (Lof_in 0 _ rfl) (fun X hG hl => ?_) (by rw [h]; rfl)
  subst hG
  subst hl
  unfold f_X10_init
  refine s_aload_n (pc := 0) 0 dX10_init_0 rfl rfl ?_
  refine s_obj (pc := 1) km_X10_3 wi_obj wc_obj (nle rfl) (nle rfl) dX10_init_1 ?_
  refine s_aload_n (pc := 4) 0 dX10_init_4 rfl rfl ?_
  refine s_bipush (pc := 5) 6 dX10_init_5 kb_6 ?_
  refine s_newa_int (pc := 7) (And.intro (by decide) (by decide)) dX10_init_7 wa_int (fun M1 hM2 => ?_)
  have h3 := le_nA hM2
  have o4 := ok_nA hM2
  refine s_grd (fun o5 => ?_)
  refine s_putrF (pc := 9) F_10 0 rfl o5 rfl rfl rfl rfl rfl dX10_init_9 kf_X10_9 (fun M6 hM7 => ?_)
  have h8 := le_wR hM7
  have o9 := h8.ok o5
  refine s_aload_n (pc := 12) 0 dX10_init_12 rfl rfl ?_
  refine s_bipush (pc := 13) 6 dX10_init_13 kb_6 ?_
  refine s_newa_int (pc := 15) (And.intro (by decide) (by decide)) dX10_init_15 wa_int (fun M10 hM11 => ?_)
  have h12 := le_nA hM11
  have o13 := h12.ok o9
  have o14 := ok_nA hM11
  refine s_dup (pc := 17) dX10_init_17 rfl ?_
  refine s_iconst (pc := 18) 0 dX10_init_18 kc_0 ?_
  refine s_iconst (pc := 19) 1 dX10_init_19 kc_1 ?_
  refine s_grd (fun i15 => ?_)
  refine s_iast (pc := 20) o14 i15 dX10_init_20 (fun M16 hM17 => ?_)
  have h18 := le_wI hM17
  have o19 := h18.ok o13
  have o20 := h18.ok o14
  refine s_dup (pc := 21) dX10_init_21 rfl ?_
  refine s_iconst (pc := 22) 1 dX10_init_22 kc_1 ?_
  refine s_iconst (pc := 23) 1 dX10_init_23 kc_1 ?_
  refine s_grd (fun i21 => ?_)
  refine s_iast (pc := 24) o20 i21 dX10_init_24 (fun M22 hM23 => ?_)
  have h24 := le_wI hM23
  have o25 := h24.ok o19
  have o26 := h24.ok o20
  refine s_dup (pc := 25) dX10_init_25 rfl ?_
  refine s_iconst (pc := 26) 2 dX10_init_26 kc_2 ?_
  refine s_iconst (pc := 27) 1 dX10_init_27 kc_1 ?_
  refine s_grd (fun i27 => ?_)
  refine s_iast (pc := 28) o26 i27 dX10_init_28 (fun M28 hM29 => ?_)
  have h30 := le_wI hM29
  have o31 := h30.ok o25
  have o32 := h30.ok o26
  refine s_dup (pc := 29) dX10_init_29 rfl ?_
  refine s_iconst (pc := 30) 3 dX10_init_30 kc_3 ?_
  refine s_iconst (pc := 31) 1 dX10_init_31 kc_1 ?_
  refine s_grd (fun i33 => ?_)
  refine s_iast (pc := 32) o32 i33 dX10_init_32 (fun M34 hM35 => ?_)
  have h36 := le_wI hM35
  have o37 := h36.ok o31
  have o38 := h36.ok o32
  refine s_dup (pc := 33) dX10_init_33 rfl ?_
  refine s_iconst (pc := 34) 4 dX10_init_34 kc_4 ?_
  refine s_iconst (pc := 35) 1 dX10_init_35 kc_1 ?_
  refine s_grd (fun i39 => ?_)
  refine s_iast (pc := 36) o38 i39 dX10_init_36 (fun M40 hM41 => ?_)
  have h42 := le_wI hM41
  have o43 := h42.ok o37
  have o44 := h42.ok o38
  refine s_dup (pc := 37) dX10_init_37 rfl ?_
  refine s_iconst (pc := 38) 5 dX10_init_38 kc_5 ?_
  refine s_iconst (pc := 39) 1 dX10_init_39 kc_1 ?_
  refine s_grd (fun i45 => ?_)
  refine s_iast (pc := 40) o44 i45 dX10_init_40 (fun M46 hM47 => ?_)
  have h48 := le_wI hM47
  have o49 := h48.ok o43
  have o50 := h48.ok o44
  refine s_putrF (pc := 41) F_10 1 rfl o49 rfl rfl rfl rfl rfl dX10_init_41 kf_X10_15 (fun M51 hM52 => ?_)
  have h53 := le_wR hM52
  have o54 := h53.ok o49
  refine s_aload_n (pc := 44) 0 dX10_init_44 rfl rfl ?_
  refine s_bipush (pc := 45) 6 dX10_init_45 kb_6 ?_
  refine s_newa_int (pc := 47) (And.intro (by decide) (by decide)) dX10_init_47 wa_int (fun M55 hM56 => ?_)
  have h57 := le_nA hM56
  have o58 := h57.ok o54
  have o59 := ok_nA hM56
  refine s_dup (pc := 49) dX10_init_49 rfl ?_
  refine s_iconst (pc := 50) 0 dX10_init_50 kc_0 ?_
  refine s_iconst (pc := 51) (-1) dX10_init_51 kc_m1 ?_
  refine s_grd (fun i60 => ?_)
  refine s_iast (pc := 52) o59 i60 dX10_init_52 (fun M61 hM62 => ?_)
  have h63 := le_wI hM62
  have o64 := h63.ok o58
  have o65 := h63.ok o59
  refine s_dup (pc := 53) dX10_init_53 rfl ?_
  refine s_iconst (pc := 54) 1 dX10_init_54 kc_1 ?_
  refine s_iconst (pc := 55) (-1) dX10_init_55 kc_m1 ?_
  refine s_grd (fun i66 => ?_)
  refine s_iast (pc := 56) o65 i66 dX10_init_56 (fun M67 hM68 => ?_)
  have h69 := le_wI hM68
  have o70 := h69.ok o64
  have o71 := h69.ok o65
  refine s_dup (pc := 57) dX10_init_57 rfl ?_
  refine s_iconst (pc := 58) 2 dX10_init_58 kc_2 ?_
  refine s_iconst (pc := 59) (-1) dX10_init_59 kc_m1 ?_
  refine s_grd (fun i72 => ?_)
  refine s_iast (pc := 60) o71 i72 dX10_init_60 (fun M73 hM74 => ?_)
  have h75 := le_wI hM74
  have o76 := h75.ok o70
  have o77 := h75.ok o71
  refine s_dup (pc := 61) dX10_init_61 rfl ?_
  refine s_iconst (pc := 62) 3 dX10_init_62 kc_3 ?_
  refine s_iconst (pc := 63) (-1) dX10_init_63 kc_m1 ?_
  refine s_grd (fun i78 => ?_)
  refine s_iast (pc := 64) o77 i78 dX10_init_64 (fun M79 hM80 => ?_)
  have h81 := le_wI hM80
  have o82 := h81.ok o76
  have o83 := h81.ok o77
  refine s_dup (pc := 65) dX10_init_65 rfl ?_
  refine s_iconst (pc := 66) 4 dX10_init_66 kc_4 ?_
  refine s_iconst (pc := 67) (-1) dX10_init_67 kc_m1 ?_
  refine s_grd (fun i84 => ?_)
  refine s_iast (pc := 68) o83 i84 dX10_init_68 (fun M85 hM86 => ?_)
  have h87 := le_wI hM86
  have o88 := h87.ok o82
  have o89 := h87.ok o83
  refine s_dup (pc := 69) dX10_init_69 rfl ?_
  refine s_iconst (pc := 70) 5 dX10_init_70 kc_5 ?_
  refine s_iconst (pc := 71) (-1) dX10_init_71 kc_m1 ?_
  refine s_grd (fun i90 => ?_)
  refine s_iast (pc := 72) o89 i90 dX10_init_72 (fun M91 hM92 => ?_)
  have h93 := le_wI hM92
  have o94 := h93.ok o88
  have o95 := h93.ok o89
  refine s_putrF (pc := 73) F_10 2 rfl o94 rfl rfl rfl rfl rfl dX10_init_73 kf_X10_18 (fun M96 hM97 => ?_)
  have h98 := le_wR hM97
  have o99 := h98.ok o94
  refine s_aload_n (pc := 76) 0 dX10_init_76 rfl rfl ?_
  refine s_bipush (pc := 77) 12 dX10_init_77 kb_12 ?_
  refine s_newa_int (pc := 79) (And.intro (by decide) (by decide)) dX10_init_79 wa_int (fun M100 hM101 => ?_)
  have h102 := le_nA hM101
  have o103 := h102.ok o99
  have o104 := ok_nA hM101
  refine s_putrF (pc := 81) F_10 3 rfl o103 rfl rfl rfl rfl rfl dX10_init_81 kf_X10_21 (fun M105 hM106 => ?_)
  have h107 := le_wR hM106
  have o108 := h107.ok o103
  refine s_aload_n (pc := 84) 0 dX10_init_84 rfl rfl ?_
  refine s_bipush (pc := 85) 12 dX10_init_85 kb_12 ?_
  refine s_newa_int (pc := 87) (And.intro (by decide) (by decide)) dX10_init_87 wa_int (fun M109 hM110 => ?_)
  have h111 := le_nA hM110
  have o112 := h111.ok o108
  have o113 := ok_nA hM110
  refine s_putrF (pc := 89) F_10 4 rfl o112 rfl rfl rfl rfl rfl dX10_init_89 kf_X10_24 (fun M114 hM115 => ?_)
  have h116 := le_wR hM115
  have o117 := h116.ok o112
  refine s_aload_n (pc := 92) 0 dX10_init_92 rfl rfl ?_
  refine s_bipush (pc := 93) 12 dX10_init_93 kb_12 ?_
  refine s_newa_int (pc := 95) (And.intro (by decide) (by decide)) dX10_init_95 wa_int (fun M118 hM119 => ?_)
  have h120 := le_nA hM119
  have o121 := h120.ok o117
  have o122 := ok_nA hM119
  refine s_putrF (pc := 97) F_10 5 rfl o121 rfl rfl rfl rfl rfl dX10_init_97 kf_X10_27 (fun M123 hM124 => ?_)
  have h125 := le_wR hM124
  have o126 := h125.ok o121
  refine s_aload_n (pc := 100) 0 dX10_init_100 rfl rfl ?_
  refine s_bipush (pc := 101) 12 dX10_init_101 kb_12 ?_
  refine s_newa_int (pc := 103) (And.intro (by decide) (by decide)) dX10_init_103 wa_int (fun M127 hM128 => ?_)
  have h129 := le_nA hM128
  have o130 := h129.ok o126
  have o131 := ok_nA hM128
  refine s_putrF (pc := 105) F_10 6 rfl o130 rfl rfl rfl rfl rfl dX10_init_105 kf_X10_30 (fun M132 hM133 => ?_)
  have h134 := le_wR hM133
  have o135 := h134.ok o130
  refine s_aload_n (pc := 108) 0 dX10_init_108 rfl rfl ?_
  refine s_bipush (pc := 109) 6 dX10_init_109 kb_6 ?_
  refine s_anewT (pc := 111) (And.intro (by decide) (by decide)) dX10_init_111 kk_X10_33 (fun M136 hM137 => ?_)
  have h138 := le_nA hM137
  have o139 := h138.ok o135
  have o140 := ok_nA hM137
  refine s_putrF (pc := 114) F_10 7 rfl o139 rfl rfl rfl rfl rfl dX10_init_114 kf_X10_35 (fun M141 hM142 => ?_)
  have h143 := le_wR hM142
  have o144 := h143.ok o139
  refine s_aload_n (pc := 117) 0 dX10_init_117 rfl rfl ?_
  refine s_iconst (pc := 118) (-1) dX10_init_118 kc_m1 ?_
  refine s_puti (pc := 119) F_10 10 rfl o144 rfl rfl rfl dX10_init_119 kf_X10_39 (fun M145 hM146 => ?_)
  have h147 := le_wI hM146
  have o148 := h147.ok o144
  refine s_aload_n (pc := 122) 0 dX10_init_122 rfl rfl ?_
  refine s_iconst (pc := 123) 1 dX10_init_123 kc_1 ?_
  refine s_puti (pc := 124) F_10 13 rfl o148 rfl rfl rfl dX10_init_124 kf_X10_43 (fun M149 hM150 => ?_)
  have h151 := le_wI hM150
  have o152 := h151.ok o148
  refine s_aload_n (pc := 127) 0 dX10_init_127 rfl rfl ?_
  refine s_iconst (pc := 128) 1 dX10_init_128 kc_1 ?_
  refine s_puti (pc := 129) F_10 14 rfl o152 rfl rfl rfl dX10_init_129 kf_X10_46 (fun M153 hM154 => ?_)
  have h155 := le_wI hM154
  have o156 := h155.ok o152
  exact s_vret rfl dX10_init_132
set_option maxRecDepth 100000 in
set_option maxHeartbeats 8000000 in
noncomputable def f_X10_isLikeEarlier (M : Mem) (a0 : Nat) (p1 : Int32) (p2 : Int32) (p3 : Int32) : Option Int32 :=
  Option.bind (loopO (σ := Int32) (ρ := Unit ⊕ Unit) (fun s1 => if p2 ≤ s1 then (some (.inr (.inl ()))) else (bv (fun (s14 : Unit) => bv (s1 + 1 : Int32) (fun x17 => some (.inl x17))) (fun j13 => if ((sr p1 s1) &&& 1) = 1 then (grd (okO M 10 a0) (Option.bind (mR M a0 6) (fun r19 => grd (okO M 14 r19) (grd (vp_in s1 (mL M r19)) (Option.bind (mR M a0 6) (fun r22 => grd (okO M 14 r22) (grd (vp_in p2 (mL M r22)) (if (((mI M r19 s1.toNatClampNeg) ^^^ (mI M r22 p2.toNatClampNeg)) &&& p3) = 0 then (some (.inr (.inr ()))) else (j13 ()))))))))) else (j13 ())))) 0) (Sum.elim (fun (x9 : Unit) => some 0) (fun (x11 : Unit) => some 1))
abbrev Y_X10_isLikeEarlier : Sta := (RX10, "isLikeEarlier", cX10_isLikeEarlier, 5, (some .boolean), 1)
set_option maxRecDepth 100000 in
set_option maxHeartbeats 8000000 in
theorem t_X10_isLikeEarlier {l : Launch} {G : Gh} {M : Mem} {a0 : Nat} {p1 : Int32} {p2 : Int32} {p3 : Int32} {q : Int32} (h : f_X10_isLikeEarlier M a0 p1 p2 p3 = some q) : Ctr l G yX10_isLikeEarlier Y_X10_isLikeEarlier M [.ref (gh G + a0), .int p1, .int p2, .int p3] M (some (.int q)) := by
  refine Ctr.of (Y := Y_X10_isLikeEarlier) (L := [some (.ref (gh G + a0)), some (.int p1), some (.int p2), some (.int p3), none]) (t := Option.bind (f_X10_isLikeEarlier M a0 p1 p2 p3) (fun q => some (M, some (.int q)))) (by decide) rfl rfl (nle rfl) (Lof_in 1 _ rfl) (fun X hG hl => ?_) (by rw [h]; rfl)
  subst hG
  subst hl
  unfold f_X10_isLikeEarlier
  refine s_iconst (pc := 0) 0 dX10_isLikeEarlier_0 kc_0 ?_
  refine s_istore (pc := 1) dX10_isLikeEarlier_1 (nlt rfl) rfl (L' := [some (.ref (gh (xG X) + a0)), some (.int p1), some (.int p2), some (.int p3), some (.int 0)]) rfl ?_
  refine s_drop (L' := [some (.ref (gh (xG X) + a0)), some (.int p1), some (.int p2), some (.int p3), some (.int 0)]) ?_ (And.intro rfl (And.intro rfl (And.intro rfl (And.intro rfl (And.intro rfl trivial)))))
  refine s_loop2 M (fun s1 : Int32 => M) (fun s1 : Int32 => [some (.ref (gh (xG X) + a0)), some (.int p1), some (.int p2), some (.int p3), some (.int s1)]) (fun x9 : Unit => M) 46 (fun x9 : Unit => [none, none, none, none, none]) (fun x11 : Unit => M) 38 (fun x11 : Unit => [none, none, none, none, none]) (fun x9 hx10 => ?_) (fun x11 hx12 => ?_) (fun T3 R5 R7 hT4 hR6 hR8 s1 hs2 => ?_) 0 Le.rf
  · show S0 X _ M 46 [none, none, none, none, none] [] _
    refine s_iconst (pc := 46) 0 dX10_isLikeEarlier_46 kc_0 ?_
    exact s_zret rfl rfl dX10_isLikeEarlier_47
  · show S0 X _ M 38 [none, none, none, none, none] [] _
    refine s_iconst (pc := 38) 1 dX10_isLikeEarlier_38 kc_1 ?_
    exact s_zret rfl rfl dX10_isLikeEarlier_39
  · show S0 X _ M 3 [some (.ref (gh (xG X) + a0)), some (.int p1), some (.int p2), some (.int p3), some (.int s1)] [] _
    refine s_iload (pc := 3) dX10_isLikeEarlier_3 rfl ?_
    refine s_iload_n (pc := 5) 2 dX10_isLikeEarlier_5 rfl rfl ?_
    refine s_icge (pc := 6) 46 dX10_isLikeEarlier_6 rfl ?_ ?_
    · exact s_drop (hR6 () Le.rf) trivial
    · refine s_iload_n (pc := 9) 1 dX10_isLikeEarlier_9 rfl rfl ?_
      refine s_iload (pc := 10) dX10_isLikeEarlier_10 rfl ?_
      refine s_ishr (pc := 12) dX10_isLikeEarlier_12 ?_
      refine s_iconst (pc := 13) 1 dX10_isLikeEarlier_13 kc_1 ?_
      refine s_iand (pc := 14) dX10_isLikeEarlier_14 ?_
      refine s_iconst (pc := 15) 1 dX10_isLikeEarlier_15 kc_1 ?_
      refine s_join M (fun s14 : Unit => M) 40 (fun s14 : Unit => [some (.ref (gh (xG X) + a0)), some (.int p1), some (.int p2), some (.int p3), some (.int s1)]) (fun s14 : Unit => []) (fun s14 hs15 => ?_) (fun j13 hj16 => ?_)
      · show S0 X _ M 40 [some (.ref (gh (xG X) + a0)), some (.int p1), some (.int p2), some (.int p3), some (.int s1)] [] _
        refine s_iinc (pc := 40) dX10_isLikeEarlier_40 rfl (v := s1 + 1) (congrArg (fun z : Int32 => s1 + z) kc_1) (nlt rfl) rfl (L' := [some (.ref (gh (xG X) + a0)), some (.int p1), some (.int p2), some (.int p3), some (.int (s1 + 1))]) rfl ?_
        refine s_bv (fun x17 : Int32 => [some (.ref (gh (xG X) + a0)), some (.int p1), some (.int p2), some (.int p3), some (.int x17)]) (fun x17 => ?_) rfl
        refine s_goto (pc := 43) 3 dX10_isLikeEarlier_43 rfl ?_
        exact s_drop (hT4 x17 Le.rf) (And.intro rfl (And.intro rfl (And.intro rfl (And.intro rfl (And.intro rfl trivial)))))
      · refine s_icne (pc := 16) 40 dX10_isLikeEarlier_16 rfl ?_ ?_
        · exact s_drop (hj16 () Le.rf) (And.intro rfl (And.intro rfl (And.intro rfl (And.intro rfl (And.intro rfl trivial)))))
        · refine s_aload_n (pc := 19) 0 dX10_isLikeEarlier_19 rfl rfl ?_
          refine s_grd (fun o18 => ?_)
          refine s_geto (pc := 20) F_10 6 rfl o18 dX10_isLikeEarlier_20 kf_X10_30 ?_
          refine s_rvB (fun r19 => ?_)
          refine s_iload (pc := 23) dX10_isLikeEarlier_23 rfl ?_
          refine s_grd (fun o20 => ?_)
          refine s_grd (fun i21 => ?_)
          refine s_iald (pc := 25) o20 i21 dX10_isLikeEarlier_25 ?_
          refine s_aload_n (pc := 26) 0 dX10_isLikeEarlier_26 rfl rfl ?_
          refine s_geto (pc := 27) F_10 6 rfl o18 dX10_isLikeEarlier_27 kf_X10_30 ?_
          refine s_rvB (fun r22 => ?_)
          refine s_iload_n (pc := 30) 2 dX10_isLikeEarlier_30 rfl rfl ?_
          refine s_grd (fun o23 => ?_)
          refine s_grd (fun i24 => ?_)
          refine s_iald (pc := 31) o23 i24 dX10_isLikeEarlier_31 ?_
          refine s_ixor (pc := 32) dX10_isLikeEarlier_32 ?_
          refine s_iload_n (pc := 33) 3 dX10_isLikeEarlier_33 rfl rfl ?_
          refine s_iand (pc := 34) dX10_isLikeEarlier_34 ?_
          refine s_ifne (pc := 35) 40 dX10_isLikeEarlier_35 rfl ?_ ?_
          · exact s_drop (hj16 () Le.rf) (And.intro rfl (And.intro rfl (And.intro rfl (And.intro rfl (And.intro rfl trivial)))))
          · exact s_drop (hR8 () Le.rf) trivial
set_option maxRecDepth 100000 in
set_option maxHeartbeats 8000000 in
noncomputable def f_X10_keepHouses (M : Mem) (a0 : Nat) (p1 : Int32) : Option Mem :=
  grd (okO M 10 a0) (bv (wI M a0 8 (mmax 0 (mmin (mI M a0 8) p1))) (fun M2 => bv (wI M2 a0 14 ((mI M2 a0 14) + 1)) (fun M6 => some M6)))
abbrev Y_X10_keepHouses : Sta := (RX10, "keepHouses", cX10_keepHouses, 2, none, 1)
set_option maxRecDepth 100000 in
set_option maxHeartbeats 8000000 in
theorem t_X10_keepHouses {l : Launch} {G : Gh} {M : Mem} {a0 : Nat} {p1 : Int32} {q : Mem} (h : f_X10_keepHouses M a0 p1 = some q) : Ctr l G yX10_keepHouses Y_X10_keepHouses M [.ref (gh G + a0), .int p1] q (none) := by
  refine Ctr.of (Y := Y_X10_keepHouses) (L := [some (.ref (gh G + a0)), some (.int p1)]) (t := Option.bind (f_X10_keepHouses M a0 p1) (fun q => some (q, (none : Option Value)))) (by decide) rfl rfl (nle rfl) (Lof_in 0 _ rfl) (fun X hG hl => ?_) (by rw [h]; rfl)
  subst hG
  subst hl
  unfold f_X10_keepHouses
  refine s_aload_n (pc := 0) 0 dX10_keepHouses_0 rfl rfl ?_
  refine s_iconst (pc := 1) 0 dX10_keepHouses_1 kc_0 ?_
  refine s_aload_n (pc := 2) 0 dX10_keepHouses_2 rfl rfl ?_
  refine s_grd (fun o1 => ?_)
  refine s_geti (pc := 3) F_10 8 rfl o1 dX10_keepHouses_3 kf_X10_55 ?_
  refine s_iload_n (pc := 6) 1 dX10_keepHouses_6 rfl rfl ?_
  refine s_mmin (pc := 7) km_X10_76 wt_J9_min_7cf53 wn_J9 wc_mmin (nle rfl) (nle rfl) dX10_keepHouses_7 ?_
  refine s_mmax (pc := 10) km_X10_82 wt_J9_max_7cf53 wn_J9 wc_mmax (nle rfl) (nle rfl) dX10_keepHouses_10 ?_
  refine s_puti (pc := 13) F_10 8 rfl o1 rfl rfl rfl dX10_keepHouses_13 kf_X10_55 (fun M2 hM3 => ?_)
  have h4 := le_wI hM3
  have o5 := h4.ok o1
  refine s_aload_n (pc := 16) 0 dX10_keepHouses_16 rfl rfl ?_
  refine s_dup (pc := 17) dX10_keepHouses_17 rfl ?_
  refine s_geti (pc := 18) F_10 14 rfl o5 dX10_keepHouses_18 kf_X10_46 ?_
  refine s_iconst (pc := 21) 1 dX10_keepHouses_21 kc_1 ?_
  refine s_iadd (pc := 22) dX10_keepHouses_22 ?_
  refine s_puti (pc := 23) F_10 14 rfl o5 rfl rfl rfl dX10_keepHouses_23 kf_X10_46 (fun M6 hM7 => ?_)
  have h8 := le_wI hM7
  have o9 := h8.ok o5
  exact s_vret rfl dX10_keepHouses_26
set_option maxRecDepth 100000 in
set_option maxHeartbeats 8000000 in
noncomputable def f_X10_textInForce (M : Mem) (a0 : Nat) : Option (Option Nat) :=
  grd (okO M 10 a0) (if (mI M a0 10) < 0 then (some none) else (if (mI M a0 9) ≤ (mI M a0 10) then (some none) else (Option.bind (mR M a0 7) (fun r2 => grd (okO M 19 r2) (grd (vp_in (mI M a0 10) (mL M r2)) (some (mR M r2 (mI M a0 10).toNatClampNeg)))))))
abbrev Y_X10_textInForce : Sta := (RX10, "textInForce", cX10_textInForce, 1, (some (.object "DishLines$Text")), 1)
set_option maxRecDepth 100000 in
set_option maxHeartbeats 8000000 in
theorem t_X10_textInForce {l : Launch} {G : Gh} {M : Mem} {a0 : Nat} {q : Option Nat} (h : f_X10_textInForce M a0 = some q) : Ctr l G yX10_textInForce Y_X10_textInForce M [.ref (gh G + a0)] M (some (rv G q)) := by
  refine Ctr.of (Y := Y_X10_textInForce) (L := [some (.ref (gh G + a0))]) (t := Option.bind (f_X10_textInForce M a0) (fun q => some (M, some (rv G q)))) (by decide) rfl rfl (nle rfl) (Lof_in 0 _ rfl) (fun X hG hl => ?_) (by rw [h]; rfl)
  subst hG
  subst hl
  unfold f_X10_textInForce
  refine s_aload_n (pc := 0) 0 dX10_textInForce_0 rfl rfl ?_
  refine s_grd (fun o1 => ?_)
  refine s_geti (pc := 1) F_10 10 rfl o1 dX10_textInForce_1 kf_X10_39 ?_
  refine s_iflt (pc := 4) 30 dX10_textInForce_4 rfl ?_ ?_
  · refine s_null (pc := 30) dX10_textInForce_30 ?_
    exact s_aret rfl (Or.inl ⟨_, rfl⟩) (Or.inl rfl) dX10_textInForce_31
  · refine s_aload_n (pc := 7) 0 dX10_textInForce_7 rfl rfl ?_
    refine s_geti (pc := 8) F_10 10 rfl o1 dX10_textInForce_8 kf_X10_39 ?_
    refine s_aload_n (pc := 11) 0 dX10_textInForce_11 rfl rfl ?_
    refine s_geti (pc := 12) F_10 9 rfl o1 dX10_textInForce_12 kf_X10_58 ?_
    refine s_icge (pc := 15) 30 dX10_textInForce_15 rfl ?_ ?_
    · refine s_null (pc := 30) dX10_textInForce_30 ?_
      exact s_aret rfl (Or.inl ⟨_, rfl⟩) (Or.inl rfl) dX10_textInForce_31
    · refine s_aload_n (pc := 18) 0 dX10_textInForce_18 rfl rfl ?_
      refine s_geto (pc := 19) F_10 7 rfl o1 dX10_textInForce_19 kf_X10_35 ?_
      refine s_rvB (fun r2 => ?_)
      refine s_aload_n (pc := 22) 0 dX10_textInForce_22 rfl rfl ?_
      refine s_geti (pc := 23) F_10 10 rfl o1 dX10_textInForce_23 kf_X10_39 ?_
      refine s_grd (fun o3 => ?_)
      refine s_grd (fun i4 => ?_)
      refine s_aaldo (pc := 26) 19 (by decide) o3 i4 dX10_textInForce_26 ?_
      refine s_goto (pc := 27) 31 dX10_textInForce_27 rfl ?_
      exact s_aret rfl (Or.inl ⟨_, rfl⟩) rv_or dX10_textInForce_31
set_option maxRecDepth 100000 in
set_option maxHeartbeats 8000000 in
noncomputable def f_X10_thingRow (M : Mem) (a0 : Nat) (p1 : Int32) : Option Nat :=
  if p1 = 0 then (grd (okO M 10 a0) (Option.bind (mR M a0 0) (fun r6 => some r6))) else (if p1 = 1 then (grd (okO M 10 a0) (Option.bind (mR M a0 1) (fun r4 => some r4))) else (grd (okO M 10 a0) (Option.bind (mR M a0 2) (fun r2 => some r2))))
abbrev Y_X10_thingRow : Sta := (RX10, "thingRow", cX10_thingRow, 2, (some (.array .int)), 1)
set_option maxRecDepth 100000 in
set_option maxHeartbeats 8000000 in
theorem t_X10_thingRow {l : Launch} {G : Gh} {M : Mem} {a0 : Nat} {p1 : Int32} {q : Nat} (h : f_X10_thingRow M a0 p1 = some q) : Ctr l G yX10_thingRow Y_X10_thingRow M [.ref (gh G + a0), .int p1] M (some (.ref (gh G + q))) := by
  refine Ctr.of (Y := Y_X10_thingRow) (L := [some (.ref (gh G + a0)), some (.int p1)]) (t := Option.bind (f_X10_thingRow M a0 p1) (fun q => some (M, some (.ref (gh G + q))))) (by decide) rfl rfl (nle rfl) (Lof_in 0 _ rfl) (fun X hG hl => ?_) (by rw [h]; rfl)
  subst hG
  subst hl
  unfold f_X10_thingRow
  refine s_iload_n (pc := 0) 1 dX10_thingRow_0 rfl rfl ?_
  refine s_ifne (pc := 1) 9 dX10_thingRow_1 rfl ?_ ?_
  · refine s_iload_n (pc := 9) 1 dX10_thingRow_9 rfl rfl ?_
    refine s_iconst (pc := 10) 1 dX10_thingRow_10 kc_1 ?_
    refine s_icne (pc := 11) 21 dX10_thingRow_11 rfl ?_ ?_
    · refine s_aload_n (pc := 21) 0 dX10_thingRow_21 rfl rfl ?_
      refine s_grd (fun o1 => ?_)
      refine s_geto (pc := 22) F_10 2 rfl o1 dX10_thingRow_22 kf_X10_18 ?_
      refine s_rvB (fun r2 => ?_)
      exact s_aret rfl (Or.inr ⟨_, rfl⟩) ref_or dX10_thingRow_25
    · refine s_aload_n (pc := 14) 0 dX10_thingRow_14 rfl rfl ?_
      refine s_grd (fun o3 => ?_)
      refine s_geto (pc := 15) F_10 1 rfl o3 dX10_thingRow_15 kf_X10_15 ?_
      refine s_rvB (fun r4 => ?_)
      refine s_goto (pc := 18) 25 dX10_thingRow_18 rfl ?_
      exact s_aret rfl (Or.inr ⟨_, rfl⟩) ref_or dX10_thingRow_25
  · refine s_aload_n (pc := 4) 0 dX10_thingRow_4 rfl rfl ?_
    refine s_grd (fun o5 => ?_)
    refine s_geto (pc := 5) F_10 0 rfl o5 dX10_thingRow_5 kf_X10_9 ?_
    refine s_rvB (fun r6 => ?_)
    exact s_aret rfl (Or.inr ⟨_, rfl⟩) ref_or dX10_thingRow_8
set_option maxRecDepth 100000 in
set_option maxHeartbeats 8000000 in
noncomputable def f_X10_toldOf (M : Mem) (a0 : Nat) (p1 : Int32) : Option Int32 :=
  grd (okO M 10 a0) (if (sr p1 (mI M a0 8)) = 0 then (some p1) else (some 0))
abbrev Y_X10_toldOf : Sta := (RX10, "toldOf", cX10_toldOf, 2, (some .int), 1)
set_option maxRecDepth 100000 in
set_option maxHeartbeats 8000000 in
theorem t_X10_toldOf {l : Launch} {G : Gh} {M : Mem} {a0 : Nat} {p1 : Int32} {q : Int32} (h : f_X10_toldOf M a0 p1 = some q) : Ctr l G yX10_toldOf Y_X10_toldOf M [.ref (gh G + a0), .int p1] M (some (.int q)) := by
  refine Ctr.of (Y := Y_X10_toldOf) (L := [some (.ref (gh G + a0)), some (.int p1)]) (t := Option.bind (f_X10_toldOf M a0 p1) (fun q => some (M, some (.int q)))) (by decide) rfl rfl (nle rfl) (Lof_in 0 _ rfl) (fun X hG hl => ?_) (by rw [h]; rfl)
  subst hG
  subst hl
  unfold f_X10_toldOf
  refine s_iload_n (pc := 0) 1 dX10_toldOf_0 rfl rfl ?_
  refine s_aload_n (pc := 1) 0 dX10_toldOf_1 rfl rfl ?_
  refine s_grd (fun o1 => ?_)
  refine s_geti (pc := 2) F_10 8 rfl o1 dX10_toldOf_2 kf_X10_55 ?_
  refine s_ishr (pc := 5) dX10_toldOf_5 ?_
  refine s_ifne (pc := 6) 13 dX10_toldOf_6 rfl ?_ ?_
  · refine s_iconst (pc := 13) 0 dX10_toldOf_13 kc_0 ?_
    exact s_iret rfl dX10_toldOf_14
  · refine s_iload_n (pc := 9) 1 dX10_toldOf_9 rfl rfl ?_
    refine s_goto (pc := 10) 14 dX10_toldOf_10 rfl ?_
    exact s_iret rfl dX10_toldOf_14
