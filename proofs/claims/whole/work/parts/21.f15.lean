set_option maxRecDepth 100000 in
set_option maxHeartbeats 8000000 in
noncomputable def f_X11_copies (M : Mem) (a0 : Nat) (p1 : Int32) : Option Int32 :=
  Option.bind (f_X6_rankOf p1) (fun q1 => if q1 = (-1) then (some (-1)) else (Option.bind (loopO (σ := Int32 × Int32) (ρ := Int32) (fun s4 => grd (okO M 11 a0) (Option.bind (mR M a0 0) (fun r13 => grd (okO M 10 r13) (if (mI M r13 8) ≤ s4.2 then (some (.inr s4.1)) else (Option.bind (loopO (σ := Int32 × Int32) (ρ := Int32) (fun s15 => if 6 ≤ s15.2 then (some (.inr s15.1)) else (Option.bind (mR M a0 0) (fun r23 => grd (okO M 10 r23) (Option.bind (f_X10_holds M r23 s4.2 s15.2) (fun q25 => bv (fun (s29 : Int32) => bv (s15.2 + 1 : Int32) (fun x32 => some (.inl (s29, x32)))) (fun j28 => if q25 ≤ 0 then (j28 s15.1) else (Option.bind (mR M a0 0) (fun r33 => grd (okO M 10 r33) (Option.bind (mR M r33 5) (fun r35 => grd (okO M 14 r35) (grd (vp_in s4.2 (mL M r35)) (Option.bind (f_X6_leftOut (mI M r35 s4.2.toNatClampNeg) s15.2) (fun q38 => if q38 = q1 then (bv (s15.1 ||| (sl 1 s4.2) : Int32) (fun x41 => j28 x41)) else (j28 s15.1)))))))))))))) (s4.1, 0)) (fun (x21 : Int32) => bv (s4.2 + 1 : Int32) (fun x42 => some (.inl (x21, x42))))))))) (0, 0)) (fun (x10 : Int32) => some x10)))
abbrev Y_X11_copies : Sta := (RX11, "copies", cX11_copies, 6, (some .int), 3)
set_option maxRecDepth 100000 in
set_option maxHeartbeats 8000000 in
theorem t_X11_copies {l : Launch} {G : Gh} {M : Mem} {a0 : Nat} {p1 : Int32} {q : Int32} (h : f_X11_copies M a0 p1 = some q) : Ctr l G yX11_copies Y_X11_copies M [.ref (gh G + a0), .int p1] M (some (.int q)) := by
  refine Ctr.of (Y := Y_X11_copies) (L := [some (.ref (gh G + a0)), some (.int p1), none, none, none, none]) (t := Option.bind (f_X11_copies M a0 p1) (fun q => some (M, some (.int q)))) (by decide) rfl rfl (nle rfl) (Lof_in 4 _ rfl) (fun X hG hl => ?_) (by rw [h]; rfl)
  subst hG
  subst hl
  unfold f_X11_copies
  refine s_iload_n (pc := 0) 1 dX11_copies_0 rfl rfl ?_
  refine s_bind (fun q1 hq2 => ?_)
  have hC3 := t_X6_rankOf (l := xl X) (G := xG X) (M := M) hq2
  refine s_callS (pc := 1) (As := [.int p1]) (st := []) cl_X6_rankOf wt_X6_rankOf km_X11_111 rfl rfl (nle rfl) (nle rfl) (nle rfl) dX11_copies_1 hC3 ?_
  show S0 X _ M 4 [some (.ref (gh (xG X) + a0)), some (.int p1), none, none, none, none] [.int q1] _
  refine s_istore_n (pc := 4) 2 dX11_copies_4 rfl (nlt rfl) rfl (L' := [some (.ref (gh (xG X) + a0)), some (.int p1), some (.int q1), none, none, none]) rfl ?_
  refine s_iload_n (pc := 5) 2 dX11_copies_5 rfl rfl ?_
  refine s_iconst (pc := 6) (-1) dX11_copies_6 kc_m1 ?_
  refine s_icne (pc := 7) 12 dX11_copies_7 rfl ?_ ?_
  · refine s_iconst (pc := 12) 0 dX11_copies_12 kc_0 ?_
    refine s_istore_n (pc := 13) 3 dX11_copies_13 rfl (nlt rfl) rfl (L' := [some (.ref (gh (xG X) + a0)), some (.int p1), some (.int q1), some (.int 0), none, none]) rfl ?_
    refine s_iconst (pc := 14) 0 dX11_copies_14 kc_0 ?_
    refine s_istore (pc := 15) dX11_copies_15 (nlt rfl) rfl (L' := [some (.ref (gh (xG X) + a0)), some (.int p1), some (.int q1), some (.int 0), some (.int 0), none]) rfl ?_
    refine s_drop (L' := [some (.ref (gh (xG X) + a0)), none, some (.int q1), some (.int 0), some (.int 0), none]) ?_ (And.intro rfl (And.intro rfl (And.intro rfl (And.intro rfl trivial))))
    refine s_loop1 M (fun s4 : Int32 × Int32 => M) (fun s4 : Int32 × Int32 => [some (.ref (gh (xG X) + a0)), none, some (.int q1), some (.int s4.1), some (.int s4.2), none]) (fun x10 : Int32 => M) 91 (fun x10 : Int32 => [none, none, none, some (.int x10), none, none]) (fun x10 hx11 => ?_) (fun T6 R8 hT7 hR9 s4 hs5 => ?_) (0, 0) Le.rf
    · show S0 X _ M 91 [none, none, none, some (.int x10), none, none] [] _
      refine s_iload_n (pc := 91) 3 dX11_copies_91 rfl rfl ?_
      exact s_iret rfl dX11_copies_92
    · show S0 X _ M 17 [some (.ref (gh (xG X) + a0)), none, some (.int q1), some (.int s4.1), some (.int s4.2), none] [] _
      refine s_iload (pc := 17) dX11_copies_17 rfl ?_
      refine s_aload_n (pc := 19) 0 dX11_copies_19 rfl rfl ?_
      refine s_grd (fun o12 => ?_)
      refine s_geto (pc := 20) F_11 0 rfl o12 dX11_copies_20 kf_X11_10 ?_
      refine s_rvB (fun r13 => ?_)
      refine s_grd (fun o14 => ?_)
      refine s_getiN (pc := 23) F_10 8 rfl o14 dX11_copies_23 (List.mem_of_getElem? (i := 9) rfl) ?_
      refine s_icge (pc := 26) 91 dX11_copies_26 rfl ?_ ?_
      · exact s_drop (hR9 s4.1 Le.rf) (And.intro rfl trivial)
      · refine s_iconst (pc := 29) 0 dX11_copies_29 kc_0 ?_
        refine s_istore (pc := 30) dX11_copies_30 (nlt rfl) rfl (L' := [some (.ref (gh (xG X) + a0)), none, some (.int q1), some (.int s4.1), some (.int s4.2), some (.int 0)]) rfl ?_
        refine s_drop (L' := [some (.ref (gh (xG X) + a0)), none, some (.int q1), some (.int s4.1), some (.int s4.2), some (.int 0)]) ?_ (And.intro rfl (And.intro rfl (And.intro rfl (And.intro rfl (And.intro rfl trivial)))))
        refine s_loop1 M (fun s15 : Int32 × Int32 => M) (fun s15 : Int32 × Int32 => [some (.ref (gh (xG X) + a0)), none, some (.int q1), some (.int s15.1), some (.int s4.2), some (.int s15.2)]) (fun x21 : Int32 => M) 85 (fun x21 : Int32 => [some (.ref (gh (xG X) + a0)), none, some (.int q1), some (.int x21), some (.int s4.2), none]) (fun x21 hx22 => ?_) (fun T17 R19 hT18 hR20 s15 hs16 => ?_) (s4.1, 0) Le.rf
        · show S0 X _ M 85 [some (.ref (gh (xG X) + a0)), none, some (.int q1), some (.int x21), some (.int s4.2), none] [] _
          refine s_iinc (pc := 85) dX11_copies_85 rfl (v := s4.2 + 1) (congrArg (fun z : Int32 => s4.2 + z) kc_1) (nlt rfl) rfl (L' := [some (.ref (gh (xG X) + a0)), none, some (.int q1), some (.int x21), some (.int (s4.2 + 1)), none]) rfl ?_
          refine s_bv (fun x42 : Int32 => [some (.ref (gh (xG X) + a0)), none, some (.int q1), some (.int x21), some (.int x42), none]) (fun x42 => ?_) rfl
          refine s_goto (pc := 88) 17 dX11_copies_88 rfl ?_
          exact s_drop (hT7 (x21, x42) Le.rf) (And.intro rfl (And.intro rfl (And.intro rfl (And.intro rfl trivial))))
        · show S0 X _ M 32 [some (.ref (gh (xG X) + a0)), none, some (.int q1), some (.int s15.1), some (.int s4.2), some (.int s15.2)] [] _
          refine s_iload (pc := 32) dX11_copies_32 rfl ?_
          refine s_bipush (pc := 34) 6 dX11_copies_34 kb_6 ?_
          refine s_icge (pc := 36) 85 dX11_copies_36 rfl ?_ ?_
          · exact s_drop (hR20 s15.1 Le.rf) (And.intro rfl (And.intro rfl (And.intro rfl (And.intro rfl trivial))))
          · refine s_aload_n (pc := 39) 0 dX11_copies_39 rfl rfl ?_
            refine s_geto (pc := 40) F_11 0 rfl o12 dX11_copies_40 kf_X11_10 ?_
            refine s_rvB (fun r23 => ?_)
            refine s_iload (pc := 43) dX11_copies_43 rfl ?_
            refine s_iload (pc := 45) dX11_copies_45 rfl ?_
            refine s_grd (fun o24 => ?_)
            refine s_bind (fun q25 hq26 => ?_)
            have hC27 := t_X10_holds (l := xl X) (G := xG X) hq26
            refine s_callV (pc := 47) (As := [.int s4.2, .int s15.2]) (st := []) (nlt rfl) (q := (RX10, TX10, 15)) rfl rfl o24 cl_X10_holds wi_X10_holds wl_X10_holds km_X11_337 rfl rfl (nle rfl) (nle rfl) (nle rfl) dX11_copies_47 hC27 ?_
            show S0 X _ M 50 [some (.ref (gh (xG X) + a0)), none, some (.int q1), some (.int s15.1), some (.int s4.2), some (.int s15.2)] [.int q25] _
            refine s_join M (fun s29 : Int32 => M) 79 (fun s29 : Int32 => [some (.ref (gh (xG X) + a0)), none, some (.int q1), some (.int s29), some (.int s4.2), some (.int s15.2)]) (fun s29 : Int32 => []) (fun s29 hs30 => ?_) (fun j28 hj31 => ?_)
            · show S0 X _ M 79 [some (.ref (gh (xG X) + a0)), none, some (.int q1), some (.int s29), some (.int s4.2), some (.int s15.2)] [] _
              refine s_iinc (pc := 79) dX11_copies_79 rfl (v := s15.2 + 1) (congrArg (fun z : Int32 => s15.2 + z) kc_1) (nlt rfl) rfl (L' := [some (.ref (gh (xG X) + a0)), none, some (.int q1), some (.int s29), some (.int s4.2), some (.int (s15.2 + 1))]) rfl ?_
              refine s_bv (fun x32 : Int32 => [some (.ref (gh (xG X) + a0)), none, some (.int q1), some (.int s29), some (.int s4.2), some (.int x32)]) (fun x32 => ?_) rfl
              refine s_goto (pc := 82) 32 dX11_copies_82 rfl ?_
              exact s_drop (hT18 (s29, x32) Le.rf) (And.intro rfl (And.intro rfl (And.intro rfl (And.intro rfl (And.intro rfl trivial)))))
            · refine s_ifle (pc := 50) 79 dX11_copies_50 rfl ?_ ?_
              · exact s_drop (hj31 s15.1 Le.rf) (And.intro rfl (And.intro rfl (And.intro rfl (And.intro rfl (And.intro rfl trivial)))))
              · refine s_aload_n (pc := 53) 0 dX11_copies_53 rfl rfl ?_
                refine s_geto (pc := 54) F_11 0 rfl o12 dX11_copies_54 kf_X11_10 ?_
                refine s_rvB (fun r33 => ?_)
                refine s_grd (fun o34 => ?_)
                refine s_getoN (pc := 57) F_10 5 rfl o34 dX11_copies_57 (List.mem_of_getElem? (i := 7) rfl) ?_
                refine s_rvB (fun r35 => ?_)
                refine s_iload (pc := 60) dX11_copies_60 rfl ?_
                refine s_grd (fun o36 => ?_)
                refine s_grd (fun i37 => ?_)
                refine s_iald (pc := 62) o36 i37 dX11_copies_62 ?_
                refine s_iload (pc := 63) dX11_copies_63 rfl ?_
                refine s_bind (fun q38 hq39 => ?_)
                have hC40 := t_X6_leftOut (l := xl X) (G := xG X) (M := M) hq39
                refine s_callS (pc := 65) (As := [.int (mI M r35 s4.2.toNatClampNeg), .int s15.2]) (st := []) cl_X6_leftOut wt_X6_leftOut km_X11_340 rfl rfl (nle rfl) (nle rfl) (nle rfl) dX11_copies_65 hC40 ?_
                show S0 X _ M 68 [some (.ref (gh (xG X) + a0)), none, some (.int q1), some (.int s15.1), some (.int s4.2), some (.int s15.2)] [.int q38] _
                refine s_iload_n (pc := 68) 2 dX11_copies_68 rfl rfl ?_
                refine s_icne (pc := 69) 79 dX11_copies_69 rfl ?_ ?_
                · exact s_drop (hj31 s15.1 Le.rf) (And.intro rfl (And.intro rfl (And.intro rfl (And.intro rfl (And.intro rfl trivial)))))
                · refine s_iload_n (pc := 72) 3 dX11_copies_72 rfl rfl ?_
                  refine s_iconst (pc := 73) 1 dX11_copies_73 kc_1 ?_
                  refine s_iload (pc := 74) dX11_copies_74 rfl ?_
                  refine s_ishl (pc := 76) dX11_copies_76 ?_
                  refine s_ior (pc := 77) dX11_copies_77 ?_
                  refine s_istore_n (pc := 78) 3 dX11_copies_78 rfl (nlt rfl) rfl (L' := [some (.ref (gh (xG X) + a0)), none, some (.int q1), some (.int (s15.1 ||| (sl 1 s4.2))), some (.int s4.2), some (.int s15.2)]) rfl ?_
                  refine s_bv (fun x41 : Int32 => [some (.ref (gh (xG X) + a0)), none, some (.int q1), some (.int x41), some (.int s4.2), some (.int s15.2)]) (fun x41 => ?_) rfl
                  exact s_drop (hj31 x41 Le.rf) (And.intro rfl (And.intro rfl (And.intro rfl (And.intro rfl (And.intro rfl trivial)))))
  · refine s_iconst (pc := 10) (-1) dX11_copies_10 kc_m1 ?_
    exact s_iret rfl dX11_copies_11
set_option maxRecDepth 100000 in
set_option maxHeartbeats 8000000 in
noncomputable def f_X11_drawn (M : Mem) (a0 : Nat) (p1 : Int32) : Option Int32 :=
  if p1 < 0 then (some (-1)) else (grd (okO M 11 a0) (if (mI M a0 11) ≤ p1 then (some (-1)) else (Option.bind (mR M a0 10) (fun r2 => grd (okO M 14 r2) (grd (vp_in p1 (mL M r2)) (Option.bind (f_X6_numberOf (mI M r2 p1.toNatClampNeg)) (fun q5 => some q5)))))))
abbrev Y_X11_drawn : Sta := (RX11, "drawn", cX11_drawn, 2, (some .int), 3)
set_option maxRecDepth 100000 in
set_option maxHeartbeats 8000000 in
theorem t_X11_drawn {l : Launch} {G : Gh} {M : Mem} {a0 : Nat} {p1 : Int32} {q : Int32} (h : f_X11_drawn M a0 p1 = some q) : Ctr l G yX11_drawn Y_X11_drawn M [.ref (gh G + a0), .int p1] M (some (.int q)) := by
  refine Ctr.of (Y := Y_X11_drawn) (L := [some (.ref (gh G + a0)), some (.int p1)]) (t := Option.bind (f_X11_drawn M a0 p1) (fun q => some (M, some (.int q)))) (by decide) rfl rfl (nle rfl) (Lof_in 0 _ rfl) (fun X hG hl => ?_) (by rw [h]; rfl)
  subst hG
  subst hl
  unfold f_X11_drawn
  refine s_iload_n (pc := 0) 1 dX11_drawn_0 rfl rfl ?_
  refine s_iflt (pc := 1) 24 dX11_drawn_1 rfl ?_ ?_
  · refine s_iconst (pc := 24) (-1) dX11_drawn_24 kc_m1 ?_
    exact s_iret rfl dX11_drawn_25
  · refine s_iload_n (pc := 4) 1 dX11_drawn_4 rfl rfl ?_
    refine s_aload_n (pc := 5) 0 dX11_drawn_5 rfl rfl ?_
    refine s_grd (fun o1 => ?_)
    refine s_geti (pc := 6) F_11 11 rfl o1 dX11_drawn_6 kf_X11_347 ?_
    refine s_icge (pc := 9) 24 dX11_drawn_9 rfl ?_ ?_
    · refine s_iconst (pc := 24) (-1) dX11_drawn_24 kc_m1 ?_
      exact s_iret rfl dX11_drawn_25
    · refine s_aload_n (pc := 12) 0 dX11_drawn_12 rfl rfl ?_
      refine s_geto (pc := 13) F_11 10 rfl o1 dX11_drawn_13 kf_X11_79 ?_
      refine s_rvB (fun r2 => ?_)
      refine s_iload_n (pc := 16) 1 dX11_drawn_16 rfl rfl ?_
      refine s_grd (fun o3 => ?_)
      refine s_grd (fun i4 => ?_)
      refine s_iald (pc := 17) o3 i4 dX11_drawn_17 ?_
      refine s_bind (fun q5 hq6 => ?_)
      have hC7 := t_X6_numberOf (l := xl X) (G := xG X) (M := M) hq6
      refine s_callS (pc := 18) (As := [.int (mI M r2 p1.toNatClampNeg)]) (st := []) cl_X6_numberOf wt_X6_numberOf km_X11_146 rfl rfl (nle rfl) (nle rfl) (nle rfl) dX11_drawn_18 hC7 ?_
      show S0 X _ M 21 [some (.ref (gh (xG X) + a0)), some (.int p1)] [.int q5] _
      refine s_goto (pc := 21) 25 dX11_drawn_21 rfl ?_
      exact s_iret rfl dX11_drawn_25
set_option maxRecDepth 100000 in
set_option maxHeartbeats 8000000 in
noncomputable def f_X11_feed (M : Mem) (a0 : Nat) (p1 : Int32) (p2 : Int32) (p3 : Int32) (p4 : Int32) (p5 : Int32) : Option (Mem × Int32) :=
  grd (okO M 11 a0) (Option.bind (mR M a0 2) (fun r2 => grd (okO M 7 r2) (Option.bind (f_X7_hasRoomFor M r2 20) (fun q4 => if q4 = 0 then (some (M, (-1))) else (Option.bind (mR M a0 2) (fun r7 => grd (okO M 7 r7) (Option.bind (f_X7_addFour M r7 p1) (fun q9 => Option.bind (mR q9 a0 2) (fun r14 => grd (okO q9 7 r14) (Option.bind (f_X7_addFour q9 r14 p2) (fun q16 => Option.bind (mR q16 a0 2) (fun r21 => grd (okO q16 7 r21) (Option.bind (f_X7_addFour q16 r21 p3) (fun q23 => Option.bind (mR q23 a0 2) (fun r28 => grd (okO q23 7 r28) (Option.bind (f_X7_addFour q23 r28 p4) (fun q30 => Option.bind (mR q30 a0 2) (fun r35 => grd (okO q30 7 r35) (Option.bind (f_X7_addFour q30 r35 p5) (fun q37 => Option.bind (mR q37 a0 2) (fun r42 => grd (okO q37 7 r42) (some (q37, mI q37 r42 4)))))))))))))))))))))))
abbrev Y_X11_feed : Sta := (RX11, "feed", cX11_feed, 6, (some .int), 3)
set_option maxRecDepth 100000 in
set_option maxHeartbeats 8000000 in
theorem t_X11_feed {l : Launch} {G : Gh} {M : Mem} {a0 : Nat} {p1 : Int32} {p2 : Int32} {p3 : Int32} {p4 : Int32} {p5 : Int32} {q : Mem × Int32} (h : f_X11_feed M a0 p1 p2 p3 p4 p5 = some q) : Ctr l G yX11_feed Y_X11_feed M [.ref (gh G + a0), .int p1, .int p2, .int p3, .int p4, .int p5] q.1 (some (.int q.2)) := by
  refine Ctr.of (Y := Y_X11_feed) (L := [some (.ref (gh G + a0)), some (.int p1), some (.int p2), some (.int p3), some (.int p4), some (.int p5)]) (t := Option.bind (f_X11_feed M a0 p1 p2 p3 p4 p5) (fun q => some (q.1, some (.int q.2)))) (by decide) rfl rfl (nle rfl) (Lof_in 0 _ rfl) (fun X hG hl => ?_) (by rw [h]; rfl)
  subst hG
  subst hl
  unfold f_X11_feed
  refine s_aload_n (pc := 0) 0 dX11_feed_0 rfl rfl ?_
  refine s_grd (fun o1 => ?_)
  refine s_geto (pc := 1) F_11 2 rfl o1 dX11_feed_1 kf_X11_23 ?_
  refine s_rvB (fun r2 => ?_)
  refine s_bipush (pc := 4) 20 dX11_feed_4 kb_20 ?_
  refine s_grd (fun o3 => ?_)
  refine s_bind (fun q4 hq5 => ?_)
  have hC6 := t_X7_hasRoomFor (l := xl X) (G := xG X) hq5
  refine s_callV (pc := 6) (As := [.int 20]) (st := []) (nlt rfl) (q := (RX7, TX7, 10)) rfl rfl o3 cl_X7_hasRoomFor wi_X7_hasRoomFor wl_X7_hasRoomFor km_X11_170 rfl rfl (nle rfl) (nle rfl) (nle rfl) dX11_feed_6 hC6 ?_
  show S0 X _ M 9 [some (.ref (gh (xG X) + a0)), some (.int p1), some (.int p2), some (.int p3), some (.int p4), some (.int p5)] [.int q4] _
  refine s_ifne (pc := 9) 14 dX11_feed_9 rfl ?_ ?_
  · refine s_aload_n (pc := 14) 0 dX11_feed_14 rfl rfl ?_
    refine s_geto (pc := 15) F_11 2 rfl o1 dX11_feed_15 kf_X11_23 ?_
    refine s_rvB (fun r7 => ?_)
    refine s_iload_n (pc := 18) 1 dX11_feed_18 rfl rfl ?_
    refine s_grd (fun o8 => ?_)
    refine s_bind (fun q9 hq10 => ?_)
    have hC11 := t_X7_addFour (l := xl X) (G := xG X) hq10
    refine s_callV (pc := 19) (As := [.int p1]) (st := []) (nlt rfl) (q := (RX7, TX7, 10)) rfl rfl o8 cl_X7_addFour wi_X7_addFour wl_X7_addFour km_X11_173 rfl rfl (nle rfl) (nle rfl) (nle rfl) dX11_feed_19 hC11 ?_
    have h12 := hC11.1 X
    have o13 := h12.ok o1
    show S0 X _ q9 22 [some (.ref (gh (xG X) + a0)), some (.int p1), some (.int p2), some (.int p3), some (.int p4), some (.int p5)] [] _
    refine s_aload_n (pc := 22) 0 dX11_feed_22 rfl rfl ?_
    refine s_geto (pc := 23) F_11 2 rfl o13 dX11_feed_23 kf_X11_23 ?_
    refine s_rvB (fun r14 => ?_)
    refine s_iload_n (pc := 26) 2 dX11_feed_26 rfl rfl ?_
    refine s_grd (fun o15 => ?_)
    refine s_bind (fun q16 hq17 => ?_)
    have hC18 := t_X7_addFour (l := xl X) (G := xG X) hq17
    refine s_callV (pc := 27) (As := [.int p2]) (st := []) (nlt rfl) (q := (RX7, TX7, 10)) rfl rfl o15 cl_X7_addFour wi_X7_addFour wl_X7_addFour km_X11_173 rfl rfl (nle rfl) (nle rfl) (nle rfl) dX11_feed_27 hC18 ?_
    have h19 := hC18.1 X
    have o20 := h19.ok o13
    show S0 X _ q16 30 [some (.ref (gh (xG X) + a0)), some (.int p1), some (.int p2), some (.int p3), some (.int p4), some (.int p5)] [] _
    refine s_aload_n (pc := 30) 0 dX11_feed_30 rfl rfl ?_
    refine s_geto (pc := 31) F_11 2 rfl o20 dX11_feed_31 kf_X11_23 ?_
    refine s_rvB (fun r21 => ?_)
    refine s_iload_n (pc := 34) 3 dX11_feed_34 rfl rfl ?_
    refine s_grd (fun o22 => ?_)
    refine s_bind (fun q23 hq24 => ?_)
    have hC25 := t_X7_addFour (l := xl X) (G := xG X) hq24
    refine s_callV (pc := 35) (As := [.int p3]) (st := []) (nlt rfl) (q := (RX7, TX7, 10)) rfl rfl o22 cl_X7_addFour wi_X7_addFour wl_X7_addFour km_X11_173 rfl rfl (nle rfl) (nle rfl) (nle rfl) dX11_feed_35 hC25 ?_
    have h26 := hC25.1 X
    have o27 := h26.ok o20
    show S0 X _ q23 38 [some (.ref (gh (xG X) + a0)), some (.int p1), some (.int p2), some (.int p3), some (.int p4), some (.int p5)] [] _
    refine s_aload_n (pc := 38) 0 dX11_feed_38 rfl rfl ?_
    refine s_geto (pc := 39) F_11 2 rfl o27 dX11_feed_39 kf_X11_23 ?_
    refine s_rvB (fun r28 => ?_)
    refine s_iload (pc := 42) dX11_feed_42 rfl ?_
    refine s_grd (fun o29 => ?_)
    refine s_bind (fun q30 hq31 => ?_)
    have hC32 := t_X7_addFour (l := xl X) (G := xG X) hq31
    refine s_callV (pc := 44) (As := [.int p4]) (st := []) (nlt rfl) (q := (RX7, TX7, 10)) rfl rfl o29 cl_X7_addFour wi_X7_addFour wl_X7_addFour km_X11_173 rfl rfl (nle rfl) (nle rfl) (nle rfl) dX11_feed_44 hC32 ?_
    have h33 := hC32.1 X
    have o34 := h33.ok o27
    show S0 X _ q30 47 [some (.ref (gh (xG X) + a0)), some (.int p1), some (.int p2), some (.int p3), some (.int p4), some (.int p5)] [] _
    refine s_aload_n (pc := 47) 0 dX11_feed_47 rfl rfl ?_
    refine s_geto (pc := 48) F_11 2 rfl o34 dX11_feed_48 kf_X11_23 ?_
    refine s_rvB (fun r35 => ?_)
    refine s_iload (pc := 51) dX11_feed_51 rfl ?_
    refine s_grd (fun o36 => ?_)
    refine s_bind (fun q37 hq38 => ?_)
    have hC39 := t_X7_addFour (l := xl X) (G := xG X) hq38
    refine s_callV (pc := 53) (As := [.int p5]) (st := []) (nlt rfl) (q := (RX7, TX7, 10)) rfl rfl o36 cl_X7_addFour wi_X7_addFour wl_X7_addFour km_X11_173 rfl rfl (nle rfl) (nle rfl) (nle rfl) dX11_feed_53 hC39 ?_
    have h40 := hC39.1 X
    have o41 := h40.ok o34
    show S0 X _ q37 56 [some (.ref (gh (xG X) + a0)), some (.int p1), some (.int p2), some (.int p3), some (.int p4), some (.int p5)] [] _
    refine s_aload_n (pc := 56) 0 dX11_feed_56 rfl rfl ?_
    refine s_geto (pc := 57) F_11 2 rfl o41 dX11_feed_57 kf_X11_23 ?_
    refine s_rvB (fun r42 => ?_)
    refine s_grd (fun o43 => ?_)
    refine s_geti (pc := 60) F_7 4 rfl o43 dX11_feed_60 kf_X11_176 ?_
    exact s_iret rfl dX11_feed_63
  · refine s_iconst (pc := 12) (-1) dX11_feed_12 kc_m1 ?_
    exact s_iret rfl dX11_feed_13
set_option maxRecDepth 100000 in
set_option maxHeartbeats 8000000 in
noncomputable def f_X11_image (M : Mem) (a0 : Nat) (p1 : Int32) : Option (Mem × Int32) :=
  bv (fun (s2 : Unit) => grd (okO M 11 a0) (Option.bind (f_X11_refuse M a0 (-1)) (fun q6 => some (q6.1, q6.2)))) (fun j1 => if p1 < 0 then (j1 ()) else (if p1 < 2 then (grd (okO M 11 a0) (Option.bind (mR M a0 1) (fun r12 => grd (okO M 20 r12) (grd (vp_in p1 (mL M r12)) (ncase (mR M r12 p1.toNatClampNeg) (bv (fun (s17 : Mem) => Option.bind (mR s17 a0 1) (fun r21 => grd (okO s17 20 r21) (grd (vp_in p1 (mL s17 r21)) (Option.bind (mR s17 r21 p1.toNatClampNeg) (fun r24 => Option.bind (mR s17 a0 0) (fun r25 => grd (okO s17 10 r24) (Option.bind (f_X10_takeFrom s17 r24 r25) (fun q27 => Option.bind (f_X11_accept q27 a0 0) (fun q32 => some (q32.1, q32.2)))))))))) (fun j16 => Option.bind (mR M a0 1) (fun r37 => bv (nO M 10 15) (fun M38 => Option.bind (f_X10_init M38 (mn M)) (fun q43 => grd (okO q43 20 r37) (grd (vp_in p1 (mL q43 r37)) (bv (wR q43 r37 p1.toNatClampNeg (some (mn M))) (fun M51 => j16 M51)))))))) (fun r15 => bv (fun (s56 : Mem) => Option.bind (mR s56 a0 1) (fun r60 => grd (okO s56 20 r60) (grd (vp_in p1 (mL s56 r60)) (Option.bind (mR s56 r60 p1.toNatClampNeg) (fun r63 => Option.bind (mR s56 a0 0) (fun r64 => grd (okO s56 10 r63) (Option.bind (f_X10_takeFrom s56 r63 r64) (fun q66 => Option.bind (f_X11_accept q66 a0 0) (fun q71 => some (q71.1, q71.2)))))))))) (fun j55 => j55 M))))))) else (j1 ())))
abbrev Y_X11_image : Sta := (RX11, "image", cX11_image, 2, (some .int), 3)
set_option maxRecDepth 100000 in
set_option maxHeartbeats 8000000 in
theorem t_X11_image {l : Launch} {G : Gh} {M : Mem} {a0 : Nat} {p1 : Int32} {q : Mem × Int32} (h : f_X11_image M a0 p1 = some q) : Ctr l G yX11_image Y_X11_image M [.ref (gh G + a0), .int p1] q.1 (some (.int q.2)) := by
  refine Ctr.of (Y := Y_X11_image) (L := [some (.ref (gh G + a0)), some (.int p1)]) (t := Option.bind (f_X11_image M a0 p1) (fun q => some (q.1, some (.int q.2)))) (by decide) rfl rfl (nle rfl) (Lof_in 0 _ rfl) (fun X hG hl => ?_) (by rw [h]; rfl)
  subst hG
  subst hl
  unfold f_X11_image
  refine s_iload_n (pc := 0) 1 dX11_image_0 rfl rfl ?_
  refine s_join M (fun s2 : Unit => M) 9 (fun s2 : Unit => [some (.ref (gh (xG X) + a0)), none]) (fun s2 : Unit => []) (fun s2 hs3 => ?_) (fun j1 hj4 => ?_)
  · show S0 X _ M 9 [some (.ref (gh (xG X) + a0)), none] [] _
    refine s_aload_n (pc := 9) 0 dX11_image_9 rfl rfl ?_
    refine s_iconst (pc := 10) (-1) dX11_image_10 kc_m1 ?_
    refine s_grd (fun o5 => ?_)
    refine s_bind (fun q6 hq7 => ?_)
    have hC8 := t_X11_refuse (l := xl X) (G := xG X) hq7
    refine s_callV (pc := 11) (As := [.int (-1)]) (st := []) (nlt rfl) (q := (RX11, TX11, 16)) rfl rfl o5 cl_X11_refuse wi_X11_refuse wl_X11_refuse km_X11_97 rfl rfl (nle rfl) (nle rfl) (nle rfl) dX11_image_11 hC8 ?_
    have h9 := hC8.1 X
    have o10 := h9.ok o5
    show S0 X _ q6.1 14 [some (.ref (gh (xG X) + a0)), none] [.int q6.2] _
    exact s_iret rfl dX11_image_14
  · refine s_iflt (pc := 1) 9 dX11_image_1 rfl ?_ ?_
    · exact s_drop (hj4 () Le.rf) (And.intro rfl trivial)
    · refine s_iload_n (pc := 4) 1 dX11_image_4 rfl rfl ?_
      refine s_iconst (pc := 5) 2 dX11_image_5 kc_2 ?_
      refine s_iclt (pc := 6) 15 dX11_image_6 rfl ?_ ?_
      · refine s_aload_n (pc := 15) 0 dX11_image_15 rfl rfl ?_
        refine s_grd (fun o11 => ?_)
        refine s_geto (pc := 16) F_11 1 rfl o11 dX11_image_16 kf_X11_16 ?_
        refine s_rvB (fun r12 => ?_)
        refine s_iload_n (pc := 19) 1 dX11_image_19 rfl rfl ?_
        refine s_grd (fun o13 => ?_)
        refine s_grd (fun i14 => ?_)
        refine s_aaldo (pc := 20) 20 (by decide) o13 i14 dX11_image_20 ?_
        refine s_rv ?_ (fun r15 => ?_)
        · refine s_join M (fun s17 : Mem => s17) 37 (fun s17 : Mem => [some (.ref (gh (xG X) + a0)), some (.int p1)]) (fun s17 : Mem => []) (fun s17 hs18 => ?_) (fun j16 hj19 => ?_)
          · show S0 X _ s17 37 [some (.ref (gh (xG X) + a0)), some (.int p1)] [] _
            have o20 := hs18.ok o11
            refine s_aload_n (pc := 37) 0 dX11_image_37 rfl rfl ?_
            refine s_geto (pc := 38) F_11 1 rfl o20 dX11_image_38 kf_X11_16 ?_
            refine s_rvB (fun r21 => ?_)
            refine s_iload_n (pc := 41) 1 dX11_image_41 rfl rfl ?_
            refine s_grd (fun o22 => ?_)
            refine s_grd (fun i23 => ?_)
            refine s_aaldo (pc := 42) 20 (by decide) o22 i23 dX11_image_42 ?_
            refine s_rvB (fun r24 => ?_)
            refine s_aload_n (pc := 43) 0 dX11_image_43 rfl rfl ?_
            refine s_geto (pc := 44) F_11 0 rfl o20 dX11_image_44 kf_X11_10 ?_
            refine s_rvB (fun r25 => ?_)
            refine s_grd (fun o26 => ?_)
            refine s_bind (fun q27 hq28 => ?_)
            have hC29 := t_X10_takeFrom (l := xl X) (G := xG X) hq28
            refine s_callV (pc := 47) (As := [.ref (gh (xG X) + r25)]) (st := []) (nlt rfl) (q := (RX10, TX10, 15)) rfl rfl o26 cl_X10_takeFrom wi_X10_takeFrom wl_X10_takeFrom km_X11_362 rfl rfl (nle rfl) (nle rfl) (nle rfl) dX11_image_47 hC29 ?_
            have h30 := hC29.1 X
            have o31 := h30.ok o20
            show S0 X _ q27 50 [some (.ref (gh (xG X) + a0)), some (.int p1)] [] _
            refine s_aload_n (pc := 50) 0 dX11_image_50 rfl rfl ?_
            refine s_iconst (pc := 51) 0 dX11_image_51 kc_0 ?_
            refine s_bind (fun q32 hq33 => ?_)
            have hC34 := t_X11_accept (l := xl X) (G := xG X) hq33
            refine s_callV (pc := 52) (As := [.int 0]) (st := []) (nlt rfl) (q := (RX11, TX11, 16)) rfl rfl o31 cl_X11_accept wi_X11_accept wl_X11_accept km_X11_108 rfl rfl (nle rfl) (nle rfl) (nle rfl) dX11_image_52 hC34 ?_
            have h35 := hC34.1 X
            have o36 := h35.ok o31
            show S0 X _ q32.1 55 [some (.ref (gh (xG X) + a0)), some (.int p1)] [.int q32.2] _
            exact s_iret rfl dX11_image_55
          · refine s_nonnullF (pc := 21) dX11_image_21 ?_
            refine s_aload_n (pc := 24) 0 dX11_image_24 rfl rfl ?_
            refine s_geto (pc := 25) F_11 1 rfl o11 dX11_image_25 kf_X11_16 ?_
            refine s_rvB (fun r37 => ?_)
            refine s_iload_n (pc := 28) 1 dX11_image_28 rfl rfl ?_
            refine s_new (pc := 29) F_10 kk_X11_7 dX11_image_29 (fun M38 hM39 => ?_)
            have h40 := le_nO hM39
            have o41 := h40.ok o11
            have o42 := ok_nO hM39
            refine s_dup (pc := 32) dX11_image_32 rfl ?_
            refine s_bind (fun q43 hq44 => ?_)
            have hC45 := t_X10_init (l := xl X) (G := xG X) hq44
            refine s_callIN (pc := 33) (As := []) (st := [.ref (gh (xG X) + (mn M)), .int p1, .ref (gh (xG X) + r37)]) rfl rfl cl_X10_init wi_X10_init (List.mem_of_getElem? (i := 0) rfl) rfl rfl (nle rfl) (nle rfl) (nle rfl) dX11_image_33 hC45 ?_
            have h46 := hC45.1 X
            have o47 := h46.ok o41
            have o48 := h46.ok o42
            show S0 X _ q43 36 [some (.ref (gh (xG X) + a0)), some (.int p1)] [.ref (gh (xG X) + (mn M)), .int p1, .ref (gh (xG X) + r37)] _
            refine s_grd (fun o49 => ?_)
            refine s_grd (fun i50 => ?_)
            refine s_aast (pc := 36) (k := 20) (ci := 10) (t0 := 7) (r := (RX10, TX10, 15)) (by decide) (fun _ => rfl) rfl (nlt rfl) o49 i50 o48 dX11_image_36 (fun M51 hM52 => ?_)
            have h53 := le_wR hM52
            have o54 := h53.ok o47
            exact s_drop (hj19 M51 (h40.tr (h46.tr h53))) (And.intro rfl (And.intro rfl trivial))
        · refine s_join M (fun s56 : Mem => s56) 37 (fun s56 : Mem => [some (.ref (gh (xG X) + a0)), some (.int p1)]) (fun s56 : Mem => []) (fun s56 hs57 => ?_) (fun j55 hj58 => ?_)
          · show S0 X _ s56 37 [some (.ref (gh (xG X) + a0)), some (.int p1)] [] _
            have o59 := hs57.ok o11
            refine s_aload_n (pc := 37) 0 dX11_image_37 rfl rfl ?_
            refine s_geto (pc := 38) F_11 1 rfl o59 dX11_image_38 kf_X11_16 ?_
            refine s_rvB (fun r60 => ?_)
            refine s_iload_n (pc := 41) 1 dX11_image_41 rfl rfl ?_
            refine s_grd (fun o61 => ?_)
            refine s_grd (fun i62 => ?_)
            refine s_aaldo (pc := 42) 20 (by decide) o61 i62 dX11_image_42 ?_
            refine s_rvB (fun r63 => ?_)
            refine s_aload_n (pc := 43) 0 dX11_image_43 rfl rfl ?_
            refine s_geto (pc := 44) F_11 0 rfl o59 dX11_image_44 kf_X11_10 ?_
            refine s_rvB (fun r64 => ?_)
            refine s_grd (fun o65 => ?_)
            refine s_bind (fun q66 hq67 => ?_)
            have hC68 := t_X10_takeFrom (l := xl X) (G := xG X) hq67
            refine s_callV (pc := 47) (As := [.ref (gh (xG X) + r64)]) (st := []) (nlt rfl) (q := (RX10, TX10, 15)) rfl rfl o65 cl_X10_takeFrom wi_X10_takeFrom wl_X10_takeFrom km_X11_362 rfl rfl (nle rfl) (nle rfl) (nle rfl) dX11_image_47 hC68 ?_
            have h69 := hC68.1 X
            have o70 := h69.ok o59
            show S0 X _ q66 50 [some (.ref (gh (xG X) + a0)), some (.int p1)] [] _
            refine s_aload_n (pc := 50) 0 dX11_image_50 rfl rfl ?_
            refine s_iconst (pc := 51) 0 dX11_image_51 kc_0 ?_
            refine s_bind (fun q71 hq72 => ?_)
            have hC73 := t_X11_accept (l := xl X) (G := xG X) hq72
            refine s_callV (pc := 52) (As := [.int 0]) (st := []) (nlt rfl) (q := (RX11, TX11, 16)) rfl rfl o70 cl_X11_accept wi_X11_accept wl_X11_accept km_X11_108 rfl rfl (nle rfl) (nle rfl) (nle rfl) dX11_image_52 hC73 ?_
            have h74 := hC73.1 X
            have o75 := h74.ok o70
            show S0 X _ q71.1 55 [some (.ref (gh (xG X) + a0)), some (.int p1)] [.int q71.2] _
            exact s_iret rfl dX11_image_55
          · refine s_nonnullT (pc := 21) 37 dX11_image_21 rfl ?_
            exact s_drop (hj58 M Le.rf) (And.intro rfl (And.intro rfl trivial))
      · exact s_drop (hj4 () Le.rf) (And.intro rfl trivial)
set_option maxRecDepth 100000 in
set_option maxHeartbeats 8000000 in
noncomputable def f_X11_init (M : Mem) (a0 : Nat) : Option Mem :=
  bv (nO M 10 15) (fun M1 => Option.bind (f_X10_init M1 (mn M)) (fun q5 => grd (okO q5 11 a0) (bv (wR q5 a0 0 (some (mn M))) (fun M11 => bv (nA M11 20 (2 : Int32).toNatClampNeg) (fun M15 => bv (wR M15 a0 1 (some (mn M11))) (fun M20 => bv (nO M20 7 10) (fun M24 => Option.bind (f_X7_init M24 (mn M20)) (fun q29 => bv (wR q29 a0 2 (some (mn M20))) (fun M35 => bv (nO M35 3 2) (fun M39 => Option.bind (f_X3_init M39 (mn M35)) (fun q44 => bv (wR q44 a0 3 (some (mn M35))) (fun M50 => bv (nO M50 8 7) (fun M54 => Option.bind (mR M54 a0 0) (fun r59 => Option.bind (f_X8_init M54 (mn M50) r59) (fun q60 => bv (wR q60 a0 4 (some (mn M50))) (fun M66 => bv (nO M66 1 8) (fun M70 => Option.bind (mR M70 a0 0) (fun r75 => Option.bind (mR M70 a0 4) (fun r76 => Option.bind (f_X1_init M70 (mn M66) r75 r76) (fun q77 => bv (wR q77 a0 5 (some (mn M66))) (fun M83 => bv (nO M83 4 10) (fun M87 => Option.bind (mR M87 a0 0) (fun r92 => Option.bind (mR M87 a0 4) (fun r93 => Option.bind (f_X4_init M87 (mn M83) r92 r93) (fun q94 => bv (wR q94 a0 6 (some (mn M83))) (fun M100 => bv (nO M100 5 12) (fun M104 => Option.bind (f_X5_init M104 (mn M100)) (fun q109 => bv (wR q109 a0 7 (some (mn M100))) (fun M115 => bv (nO M115 0 9) (fun M119 => Option.bind (mR M119 a0 0) (fun r124 => Option.bind (mR M119 a0 4) (fun r125 => Option.bind (mR M119 a0 5) (fun r126 => Option.bind (f_X0_init M119 (mn M115) r124 r125 r126) (fun q127 => bv (wR q127 a0 8 (some (mn M115))) (fun M133 => bv (nA M133 14 (5 : Int32).toNatClampNeg) (fun M137 => bv (wR M137 a0 9 (some (mn M133))) (fun M142 => bv (nA M142 14 (61 : Int32).toNatClampNeg) (fun M146 => bv (wR M146 a0 10 (some (mn M142))) (fun M151 => bv (wI M151 a0 14 (-1)) (fun M155 => bv (wI M155 a0 15 (-1)) (fun M159 => some M159)))))))))))))))))))))))))))))))))))))))))
abbrev Y_X11_init : Sta := (RX11, "<init>", cX11_init, 1, none, 3)
set_option maxRecDepth 100000 in
set_option maxHeartbeats 8000000 in
theorem t_X11_init {l : Launch} {G : Gh} {M : Mem} {a0 : Nat} {q : Mem} (h : f_X11_init M a0 = some q) : Ctr l G yX11_init Y_X11_init M [.ref (gh G + a0)] q (none) := by
  refine Ctr.of (Y := Y_X11_init) (L := [some (.ref (gh G + a0))]) (t := Option.bind (f_X11_init M a0) (fun q => some (q, (none : Option Value)))) (by decide) rfl rfl (nle rfl) (Lof_in 0 _ rfl) (fun X hG hl => ?_) (by rw [h]; rfl)
  subst hG
  subst hl
  unfold f_X11_init
  refine s_aload_n (pc := 0) 0 dX11_init_0 rfl rfl ?_
  refine s_obj (pc := 1) km_X11_1 wi_obj wc_obj (nle rfl) (nle rfl) dX11_init_1 ?_
  refine s_aload_n (pc := 4) 0 dX11_init_4 rfl rfl ?_
  refine s_new (pc := 5) F_10 kk_X11_7 dX11_init_5 (fun M1 hM2 => ?_)
  have h3 := le_nO hM2
  have o4 := ok_nO hM2
  refine s_dup (pc := 8) dX11_init_8 rfl ?_
  refine s_bind (fun q5 hq6 => ?_)
  have hC7 := t_X10_init (l := xl X) (G := xG X) hq6
  refine s_callIN (pc := 9) (As := []) (st := [.ref (gh (xG X) + (mn M)), .ref (gh (xG X) + a0)]) rfl rfl cl_X10_init wi_X10_init (List.mem_of_getElem? (i := 0) rfl) rfl rfl (nle rfl) (nle rfl) (nle rfl) dX11_init_9 hC7 ?_
  have h8 := hC7.1 X
  have o9 := h8.ok o4
  show S0 X _ q5 12 [some (.ref (gh (xG X) + a0))] [.ref (gh (xG X) + (mn M)), .ref (gh (xG X) + a0)] _
  refine s_grd (fun o10 => ?_)
  refine s_putrF (pc := 12) F_11 0 rfl o10 rfl rfl rfl rfl rfl dX11_init_12 kf_X11_10 (fun M11 hM12 => ?_)
  have h13 := le_wR hM12
  have o14 := h13.ok o10
  refine s_aload_n (pc := 15) 0 dX11_init_15 rfl rfl ?_
  refine s_iconst (pc := 16) 2 dX11_init_16 kc_2 ?_
  refine s_anewV (pc := 17) (And.intro (by decide) (by decide)) dX11_init_17 kk_X11_7 (fun M15 hM16 => ?_)
  have h17 := le_nA hM16
  have o18 := h17.ok o14
  have o19 := ok_nA hM16
  refine s_putrF (pc := 20) F_11 1 rfl o18 rfl rfl rfl rfl rfl dX11_init_20 kf_X11_16 (fun M20 hM21 => ?_)
  have h22 := le_wR hM21
  have o23 := h22.ok o18
  refine s_aload_n (pc := 23) 0 dX11_init_23 rfl rfl ?_
  refine s_new (pc := 24) F_7 kk_X11_20 dX11_init_24 (fun M24 hM25 => ?_)
  have h26 := le_nO hM25
  have o27 := h26.ok o23
  have o28 := ok_nO hM25
  refine s_dup (pc := 27) dX11_init_27 rfl ?_
  refine s_bind (fun q29 hq30 => ?_)
  have hC31 := t_X7_init (l := xl X) (G := xG X) hq30
  refine s_callIN (pc := 28) (As := []) (st := [.ref (gh (xG X) + (mn M20)), .ref (gh (xG X) + a0)]) rfl rfl cl_X7_init wi_X7_init (List.mem_of_getElem? (i := 1) rfl) rfl rfl (nle rfl) (nle rfl) (nle rfl) dX11_init_28 hC31 ?_
  have h32 := hC31.1 X
  have o33 := h32.ok o27
  have o34 := h32.ok o28
  show S0 X _ q29 31 [some (.ref (gh (xG X) + a0))] [.ref (gh (xG X) + (mn M20)), .ref (gh (xG X) + a0)] _
  refine s_putrF (pc := 31) F_11 2 rfl o33 rfl rfl rfl rfl rfl dX11_init_31 kf_X11_23 (fun M35 hM36 => ?_)
  have h37 := le_wR hM36
  have o38 := h37.ok o33
  refine s_aload_n (pc := 34) 0 dX11_init_34 rfl rfl ?_
  refine s_new (pc := 35) F_3 kk_X11_27 dX11_init_35 (fun M39 hM40 => ?_)
  have h41 := le_nO hM40
  have o42 := h41.ok o38
  have o43 := ok_nO hM40
  refine s_dup (pc := 38) dX11_init_38 rfl ?_
  refine s_bind (fun q44 hq45 => ?_)
  have hC46 := t_X3_init (l := xl X) (G := xG X) hq45
  refine s_callIN (pc := 39) (As := []) (st := [.ref (gh (xG X) + (mn M35)), .ref (gh (xG X) + a0)]) rfl rfl cl_X3_init wi_X3_init (List.mem_of_getElem? (i := 2) rfl) rfl rfl (nle rfl) (nle rfl) (nle rfl) dX11_init_39 hC46 ?_
  have h47 := hC46.1 X
  have o48 := h47.ok o42
  have o49 := h47.ok o43
  show S0 X _ q44 42 [some (.ref (gh (xG X) + a0))] [.ref (gh (xG X) + (mn M35)), .ref (gh (xG X) + a0)] _
  refine s_putrF (pc := 42) F_11 3 rfl o48 rfl rfl rfl rfl rfl dX11_init_42 kf_X11_30 (fun M50 hM51 => ?_)
  have h52 := le_wR hM51
  have o53 := h52.ok o48
  refine s_aload_n (pc := 45) 0 dX11_init_45 rfl rfl ?_
  refine s_new (pc := 46) F_8 kk_X11_34 dX11_init_46 (fun M54 hM55 => ?_)
  have h56 := le_nO hM55
  have o57 := h56.ok o53
  have o58 := ok_nO hM55
  refine s_dup (pc := 49) dX11_init_49 rfl ?_
  refine s_aload_n (pc := 50) 0 dX11_init_50 rfl rfl ?_
  refine s_geto (pc := 51) F_11 0 rfl o57 dX11_init_51 kf_X11_10 ?_
  refine s_rvB (fun r59 => ?_)
  refine s_bind (fun q60 hq61 => ?_)
  have hC62 := t_X8_init (l := xl X) (G := xG X) hq61
  refine s_callI (pc := 54) (As := [.ref (gh (xG X) + r59)]) (st := [.ref (gh (xG X) + (mn M50)), .ref (gh (xG X) + a0)]) rfl rfl cl_X8_init wi_X8_init km_X11_36 rfl rfl (nle rfl) (nle rfl) (nle rfl) dX11_init_54 hC62 ?_
  have h63 := hC62.1 X
  have o64 := h63.ok o57
  have o65 := h63.ok o58
  show S0 X _ q60 57 [some (.ref (gh (xG X) + a0))] [.ref (gh (xG X) + (mn M50)), .ref (gh (xG X) + a0)] _
  refine s_putrF (pc := 57) F_11 4 rfl o64 rfl rfl rfl rfl rfl dX11_init_57 kf_X11_39 (fun M66 hM67 => ?_)
  have h68 := le_wR hM67
  have o69 := h68.ok o64
  refine s_aload_n (pc := 60) 0 dX11_init_60 rfl rfl ?_
  refine s_new (pc := 61) F_1 kk_X11_43 dX11_init_61 (fun M70 hM71 => ?_)
  have h72 := le_nO hM71
  have o73 := h72.ok o69
  have o74 := ok_nO hM71
  refine s_dup (pc := 64) dX11_init_64 rfl ?_
  refine s_aload_n (pc := 65) 0 dX11_init_65 rfl rfl ?_
  refine s_geto (pc := 66) F_11 0 rfl o73 dX11_init_66 kf_X11_10 ?_
  refine s_rvB (fun r75 => ?_)
  refine s_aload_n (pc := 69) 0 dX11_init_69 rfl rfl ?_
  refine s_geto (pc := 70) F_11 4 rfl o73 dX11_init_70 kf_X11_39 ?_
  refine s_rvB (fun r76 => ?_)
  refine s_bind (fun q77 hq78 => ?_)
  have hC79 := t_X1_init (l := xl X) (G := xG X) hq78
  refine s_callI (pc := 73) (As := [.ref (gh (xG X) + r75), .ref (gh (xG X) + r76)]) (st := [.ref (gh (xG X) + (mn M66)), .ref (gh (xG X) + a0)]) rfl rfl cl_X1_init wi_X1_init km_X11_45 rfl rfl (nle rfl) (nle rfl) (nle rfl) dX11_init_73 hC79 ?_
  have h80 := hC79.1 X
  have o81 := h80.ok o73
  have o82 := h80.ok o74
  show S0 X _ q77 76 [some (.ref (gh (xG X) + a0))] [.ref (gh (xG X) + (mn M66)), .ref (gh (xG X) + a0)] _
  refine s_putrF (pc := 76) F_11 5 rfl o81 rfl rfl rfl rfl rfl dX11_init_76 kf_X11_48 (fun M83 hM84 => ?_)
  have h85 := le_wR hM84
  have o86 := h85.ok o81
  refine s_aload_n (pc := 79) 0 dX11_init_79 rfl rfl ?_
  refine s_new (pc := 80) F_4 kk_X11_52 dX11_init_80 (fun M87 hM88 => ?_)
  have h89 := le_nO hM88
  have o90 := h89.ok o86
  have o91 := ok_nO hM88
  refine s_dup (pc := 83) dX11_init_83 rfl ?_
  refine s_aload_n (pc := 84) 0 dX11_init_84 rfl rfl ?_
  refine s_geto (pc := 85) F_11 0 rfl o90 dX11_init_85 kf_X11_10 ?_
  refine s_rvB (fun r92 => ?_)
  refine s_aload_n (pc := 88) 0 dX11_init_88 rfl rfl ?_
  refine s_geto (pc := 89) F_11 4 rfl o90 dX11_init_89 kf_X11_39 ?_
  refine s_rvB (fun r93 => ?_)
  refine s_bind (fun q94 hq95 => ?_)
  have hC96 := t_X4_init (l := xl X) (G := xG X) hq95
  refine s_callI (pc := 92) (As := [.ref (gh (xG X) + r92), .ref (gh (xG X) + r93)]) (st := [.ref (gh (xG X) + (mn M83)), .ref (gh (xG X) + a0)]) rfl rfl cl_X4_init wi_X4_init km_X11_54 rfl rfl (nle rfl) (nle rfl) (nle rfl) dX11_init_92 hC96 ?_
  have h97 := hC96.1 X
  have o98 := h97.ok o90
  have o99 := h97.ok o91
  show S0 X _ q94 95 [some (.ref (gh (xG X) + a0))] [.ref (gh (xG X) + (mn M83)), .ref (gh (xG X) + a0)] _
  refine s_putrF (pc := 95) F_11 6 rfl o98 rfl rfl rfl rfl rfl dX11_init_95 kf_X11_55 (fun M100 hM101 => ?_)
  have h102 := le_wR hM101
  have o103 := h102.ok o98
  refine s_aload_n (pc := 98) 0 dX11_init_98 rfl rfl ?_
  refine s_new (pc := 99) F_5 kk_X11_59 dX11_init_99 (fun M104 hM105 => ?_)
  have h106 := le_nO hM105
  have o107 := h106.ok o103
  have o108 := ok_nO hM105
  refine s_dup (pc := 102) dX11_init_102 rfl ?_
  refine s_bind (fun q109 hq110 => ?_)
  have hC111 := t_X5_init (l := xl X) (G := xG X) hq110
  refine s_callIN (pc := 103) (As := []) (st := [.ref (gh (xG X) + (mn M100)), .ref (gh (xG X) + a0)]) rfl rfl cl_X5_init wi_X5_init (List.mem_of_getElem? (i := 5) rfl) rfl rfl (nle rfl) (nle rfl) (nle rfl) dX11_init_103 hC111 ?_
  have h112 := hC111.1 X
  have o113 := h112.ok o107
  have o114 := h112.ok o108
  show S0 X _ q109 106 [some (.ref (gh (xG X) + a0))] [.ref (gh (xG X) + (mn M100)), .ref (gh (xG X) + a0)] _
  refine s_putrF (pc := 106) F_11 7 rfl o113 rfl rfl rfl rfl rfl dX11_init_106 kf_X11_62 (fun M115 hM116 => ?_)
  have h117 := le_wR hM116
  have o118 := h117.ok o113
  refine s_aload_n (pc := 109) 0 dX11_init_109 rfl rfl ?_
  refine s_new (pc := 110) F_0 kk_X11_66 dX11_init_110 (fun M119 hM120 => ?_)
  have h121 := le_nO hM120
  have o122 := h121.ok o118
  have o123 := ok_nO hM120
  refine s_dup (pc := 113) dX11_init_113 rfl ?_
  refine s_aload_n (pc := 114) 0 dX11_init_114 rfl rfl ?_
  refine s_geto (pc := 115) F_11 0 rfl o122 dX11_init_115 kf_X11_10 ?_
  refine s_rvB (fun r124 => ?_)
  refine s_aload_n (pc := 118) 0 dX11_init_118 rfl rfl ?_
  refine s_geto (pc := 119) F_11 4 rfl o122 dX11_init_119 kf_X11_39 ?_
  refine s_rvB (fun r125 => ?_)
  refine s_aload_n (pc := 122) 0 dX11_init_122 rfl rfl ?_
  refine s_geto (pc := 123) F_11 5 rfl o122 dX11_init_123 kf_X11_48 ?_
  refine s_rvB (fun r126 => ?_)
  refine s_bind (fun q127 hq128 => ?_)
  have hC129 := t_X0_init (l := xl X) (G := xG X) hq128
  refine s_callI (pc := 126) (As := [.ref (gh (xG X) + r124), .ref (gh (xG X) + r125), .ref (gh (xG X) + r126)]) (st := [.ref (gh (xG X) + (mn M115)), .ref (gh (xG X) + a0)]) rfl rfl cl_X0_init wi_X0_init km_X11_68 rfl rfl (nle rfl) (nle rfl) (nle rfl) dX11_init_126 hC129 ?_
  have h130 := hC129.1 X
  have o131 := h130.ok o122
  have o132 := h130.ok o123
  show S0 X _ q127 129 [some (.ref (gh (xG X) + a0))] [.ref (gh (xG X) + (mn M115)), .ref (gh (xG X) + a0)] _
  refine s_putrF (pc := 129) F_11 8 rfl o131 rfl rfl rfl rfl rfl dX11_init_129 kf_X11_71 (fun M133 hM134 => ?_)
  have h135 := le_wR hM134
  have o136 := h135.ok o131
  refine s_aload_n (pc := 132) 0 dX11_init_132 rfl rfl ?_
  refine s_iconst (pc := 133) 5 dX11_init_133 kc_5 ?_
  refine s_newa_int (pc := 134) (And.intro (by decide) (by decide)) dX11_init_134 wa_int (fun M137 hM138 => ?_)
  have h139 := le_nA hM138
  have o140 := h139.ok o136
  have o141 := ok_nA hM138
  refine s_putrF (pc := 136) F_11 9 rfl o140 rfl rfl rfl rfl rfl dX11_init_136 kf_X11_75 (fun M142 hM143 => ?_)
  have h144 := le_wR hM143
  have o145 := h144.ok o140
  refine s_aload_n (pc := 139) 0 dX11_init_139 rfl rfl ?_
  refine s_bipush (pc := 140) 61 dX11_init_140 kb_61 ?_
  refine s_newa_int (pc := 142) (And.intro (by decide) (by decide)) dX11_init_142 wa_int (fun M146 hM147 => ?_)
  have h148 := le_nA hM147
  have o149 := h148.ok o145
  have o150 := ok_nA hM147
  refine s_putrF (pc := 144) F_11 10 rfl o149 rfl rfl rfl rfl rfl dX11_init_144 kf_X11_79 (fun M151 hM152 => ?_)
  have h153 := le_wR hM152
  have o154 := h153.ok o149
  refine s_aload_n (pc := 147) 0 dX11_init_147 rfl rfl ?_
  refine s_iconst (pc := 148) (-1) dX11_init_148 kc_m1 ?_
  refine s_puti (pc := 149) F_11 14 rfl o154 rfl rfl rfl dX11_init_149 kf_X11_82 (fun M155 hM156 => ?_)
  have h157 := le_wI hM156
  have o158 := h157.ok o154
  refine s_aload_n (pc := 152) 0 dX11_init_152 rfl rfl ?_
  refine s_iconst (pc := 153) (-1) dX11_init_153 kc_m1 ?_
  refine s_puti (pc := 154) F_11 15 rfl o158 rfl rfl rfl dX11_init_154 kf_X11_86 (fun M159 hM160 => ?_)
  have h161 := le_wI hM160
  have o162 := h161.ok o158
  exact s_vret rfl dX11_init_157
set_option maxRecDepth 100000 in
set_option maxHeartbeats 8000000 in
noncomputable def f_X11_poor (M : Mem) (a0 : Nat) (p1 : Int32) : Option Int32 :=
  grd (okO M 11 a0) (Option.bind (mR M a0 0) (fun r2 => grd (okO M 10 r2) (Option.bind (f_X10_yearBehind M r2 (-1)) (fun q4 => Option.bind (loopO (σ := Int32 × Int32 × Int32) (ρ := Int32 ⊕ (Int32 × Int32)) (fun s7 => if 12 ≤ s7.2.2 then (some (.inr (.inl s7.1))) else (if s7.2.1 = (-1) then (some (.inr (.inl s7.1))) else (Option.bind (loopO (σ := Int32 × Int32) (ρ := Int32 ⊕ Int32) (fun s19 => if 6 ≤ s19.2 then (some (.inr (.inl s19.1))) else (Option.bind (mR M a0 0) (fun r31 => grd (okO M 10 r31) (Option.bind (f_X10_isPoor M r31 s7.2.1 s19.2) (fun q33 => bv (fun (s37 : Int32) => bv (s19.2 + 1 : Int32) (fun x40 => some (.inl (s37, x40)))) (fun j36 => if q33 = 0 then (j36 s19.1) else (if s19.1 = p1 then (some (.inr (.inr s19.2))) else (bv (s19.1 + 1 : Int32) (fun x41 => j36 x41))))))))) (s7.1, 0)) (Sum.elim (fun (x27 : Int32) => Option.bind (mR M a0 0) (fun r42 => grd (okO M 10 r42) (Option.bind (f_X10_yearBehind M r42 s7.2.1) (fun q44 => bv (s7.2.2 + 1 : Int32) (fun x47 => some (.inl (x27, q44, x47))))))) (fun (x29 : Int32) => some (.inr (.inr (s7.2.1, x29)))))))) (0, q4, 0)) (Sum.elim (fun (x15 : Int32) => if p1 = (-1) then (some x15) else (some (-1))) (fun (x17 : Int32 × Int32) => some ((x17.1 * 6) + x17.2)))))))
abbrev Y_X11_poor : Sta := (RX11, "poor", cX11_poor, 6, (some .int), 3)
set_option maxRecDepth 100000 in
set_option maxHeartbeats 8000000 in
theorem t_X11_poor {l : Launch} {G : Gh} {M : Mem} {a0 : Nat} {p1 : Int32} {q : Int32} (h : f_X11_poor M a0 p1 = some q) : Ctr l G yX11_poor Y_X11_poor M [.ref (gh G + a0), .int p1] M (some (.int q)) := by
  refine Ctr.of (Y := Y_X11_poor) (L := [some (.ref (gh G + a0)), some (.int p1), none, none, none, none]) (t := Option.bind (f_X11_poor M a0 p1) (fun q => some (M, some (.int q)))) (by decide) rfl rfl (nle rfl) (Lof_in 4 _ rfl) (fun X hG hl => ?_) (by rw [h]; rfl)
  subst hG
  subst hl
  unfold f_X11_poor
  refine s_iconst (pc := 0) 0 dX11_poor_0 kc_0 ?_
  refine s_istore_n (pc := 1) 2 dX11_poor_1 rfl (nlt rfl) rfl (L' := [some (.ref (gh (xG X) + a0)), some (.int p1), some (.int 0), none, none, none]) rfl ?_
  refine s_aload_n (pc := 2) 0 dX11_poor_2 rfl rfl ?_
  refine s_grd (fun o1 => ?_)
  refine s_geto (pc := 3) F_11 0 rfl o1 dX11_poor_3 kf_X11_10 ?_
  refine s_rvB (fun r2 => ?_)
  refine s_iconst (pc := 6) (-1) dX11_poor_6 kc_m1 ?_
  refine s_grd (fun o3 => ?_)
  refine s_bind (fun q4 hq5 => ?_)
  have hC6 := t_X10_yearBehind (l := xl X) (G := xG X) hq5
  refine s_callV (pc := 7) (As := [.int (-1)]) (st := []) (nlt rfl) (q := (RX10, TX10, 15)) rfl rfl o3 cl_X10_yearBehind wi_X10_yearBehind wl_X10_yearBehind km_X11_269 rfl rfl (nle rfl) (nle rfl) (nle rfl) dX11_poor_7 hC6 ?_
  show S0 X _ M 10 [some (.ref (gh (xG X) + a0)), some (.int p1), some (.int 0), none, none, none] [.int q4] _
  refine s_istore_n (pc := 10) 3 dX11_poor_10 rfl (nlt rfl) rfl (L' := [some (.ref (gh (xG X) + a0)), some (.int p1), some (.int 0), some (.int q4), none, none]) rfl ?_
  refine s_iconst (pc := 11) 0 dX11_poor_11 kc_0 ?_
  refine s_istore (pc := 12) dX11_poor_12 (nlt rfl) rfl (L' := [some (.ref (gh (xG X) + a0)), some (.int p1), some (.int 0), some (.int q4), some (.int 0), none]) rfl ?_
  refine s_drop (L' := [some (.ref (gh (xG X) + a0)), some (.int p1), some (.int 0), some (.int q4), some (.int 0), none]) ?_ (And.intro rfl (And.intro rfl (And.intro rfl (And.intro rfl (And.intro rfl trivial)))))
  refine s_loop2 M (fun s7 : Int32 × Int32 × Int32 => M) (fun s7 : Int32 × Int32 × Int32 => [some (.ref (gh (xG X) + a0)), some (.int p1), some (.int s7.1), some (.int s7.2.1), some (.int s7.2.2), none]) (fun x15 : Int32 => M) 89 (fun x15 : Int32 => [none, some (.int p1), some (.int x15), none, none, none]) (fun x17 : Int32 × Int32 => M) 57 (fun x17 : Int32 × Int32 => [none, none, none, some (.int x17.1), none, some (.int x17.2)]) (fun x15 hx16 => ?_) (fun x17 hx18 => ?_) (fun T9 R11 R13 hT10 hR12 hR14 s7 hs8 => ?_) (0, q4, 0) Le.rf
  · show S0 X _ M 89 [none, some (.int p1), some (.int x15), none, none, none] [] _
    refine s_iload_n (pc := 89) 1 dX11_poor_89 rfl rfl ?_
    refine s_iconst (pc := 90) (-1) dX11_poor_90 kc_m1 ?_
    refine s_icne (pc := 91) 98 dX11_poor_91 rfl ?_ ?_
    · refine s_iconst (pc := 98) (-1) dX11_poor_98 kc_m1 ?_
      exact s_iret rfl dX11_poor_99
    · refine s_iload_n (pc := 94) 2 dX11_poor_94 rfl rfl ?_
      refine s_goto (pc := 95) 99 dX11_poor_95 rfl ?_
      exact s_iret rfl dX11_poor_99
  · show S0 X _ M 57 [none, none, none, some (.int x17.1), none, some (.int x17.2)] [] _
    refine s_iload_n (pc := 57) 3 dX11_poor_57 rfl rfl ?_
    refine s_bipush (pc := 58) 6 dX11_poor_58 kb_6 ?_
    refine s_imul (pc := 60) dX11_poor_60 ?_
    refine s_iload (pc := 61) dX11_poor_61 rfl ?_
    refine s_iadd (pc := 63) dX11_poor_63 ?_
    exact s_iret rfl dX11_poor_64
  · show S0 X _ M 14 [some (.ref (gh (xG X) + a0)), some (.int p1), some (.int s7.1), some (.int s7.2.1), some (.int s7.2.2), none] [] _
    refine s_iload (pc := 14) dX11_poor_14 rfl ?_
    refine s_bipush (pc := 16) 12 dX11_poor_16 kb_12 ?_
    refine s_icge (pc := 18) 89 dX11_poor_18 rfl ?_ ?_
    · exact s_drop (hR12 s7.1 Le.rf) (And.intro rfl (And.intro rfl trivial))
    · refine s_iload_n (pc := 21) 3 dX11_poor_21 rfl rfl ?_
      refine s_iconst (pc := 22) (-1) dX11_poor_22 kc_m1 ?_
      refine s_iceq (pc := 23) 89 dX11_poor_23 rfl ?_ ?_
      · exact s_drop (hR12 s7.1 Le.rf) (And.intro rfl (And.intro rfl trivial))
      · refine s_iconst (pc := 26) 0 dX11_poor_26 kc_0 ?_
        refine s_istore (pc := 27) dX11_poor_27 (nlt rfl) rfl (L' := [some (.ref (gh (xG X) + a0)), some (.int p1), some (.int s7.1), some (.int s7.2.1), some (.int s7.2.2), some (.int 0)]) rfl ?_
        refine s_drop (L' := [some (.ref (gh (xG X) + a0)), some (.int p1), some (.int s7.1), some (.int s7.2.1), some (.int s7.2.2), some (.int 0)]) ?_ (And.intro rfl (And.intro rfl (And.intro rfl (And.intro rfl (And.intro rfl (And.intro rfl trivial))))))
        refine s_loop2 M (fun s19 : Int32 × Int32 => M) (fun s19 : Int32 × Int32 => [some (.ref (gh (xG X) + a0)), some (.int p1), some (.int s19.1), some (.int s7.2.1), some (.int s7.2.2), some (.int s19.2)]) (fun x27 : Int32 => M) 74 (fun x27 : Int32 => [some (.ref (gh (xG X) + a0)), some (.int p1), some (.int x27), some (.int s7.2.1), some (.int s7.2.2), none]) (fun x29 : Int32 => M) 57 (fun x29 : Int32 => [none, none, none, some (.int s7.2.1), none, some (.int x29)]) (fun x27 hx28 => ?_) (fun x29 hx30 => ?_) (fun T21 R23 R25 hT22 hR24 hR26 s19 hs20 => ?_) (s7.1, 0) Le.rf
        · show S0 X _ M 74 [some (.ref (gh (xG X) + a0)), some (.int p1), some (.int x27), some (.int s7.2.1), some (.int s7.2.2), none] [] _
          refine s_aload_n (pc := 74) 0 dX11_poor_74 rfl rfl ?_
          refine s_geto (pc := 75) F_11 0 rfl o1 dX11_poor_75 kf_X11_10 ?_
          refine s_rvB (fun r42 => ?_)
          refine s_iload_n (pc := 78) 3 dX11_poor_78 rfl rfl ?_
          refine s_grd (fun o43 => ?_)
          refine s_bind (fun q44 hq45 => ?_)
          have hC46 := t_X10_yearBehind (l := xl X) (G := xG X) hq45
          refine s_callV (pc := 79) (As := [.int s7.2.1]) (st := []) (nlt rfl) (q := (RX10, TX10, 15)) rfl rfl o43 cl_X10_yearBehind wi_X10_yearBehind wl_X10_yearBehind km_X11_269 rfl rfl (nle rfl) (nle rfl) (nle rfl) dX11_poor_79 hC46 ?_
          show S0 X _ M 82 [some (.ref (gh (xG X) + a0)), some (.int p1), some (.int x27), some (.int s7.2.1), some (.int s7.2.2), none] [.int q44] _
          refine s_istore_n (pc := 82) 3 dX11_poor_82 rfl (nlt rfl) rfl (L' := [some (.ref (gh (xG X) + a0)), some (.int p1), some (.int x27), some (.int q44), some (.int s7.2.2), none]) rfl ?_
          refine s_iinc (pc := 83) dX11_poor_83 rfl (v := s7.2.2 + 1) (congrArg (fun z : Int32 => s7.2.2 + z) kc_1) (nlt rfl) rfl (L' := [some (.ref (gh (xG X) + a0)), some (.int p1), some (.int x27), some (.int q44), some (.int (s7.2.2 + 1)), none]) rfl ?_
          refine s_bv (fun x47 : Int32 => [some (.ref (gh (xG X) + a0)), some (.int p1), some (.int x27), some (.int q44), some (.int x47), none]) (fun x47 => ?_) rfl
          refine s_goto (pc := 86) 14 dX11_poor_86 rfl ?_
          exact s_drop (hT10 (x27, q44, x47) Le.rf) (And.intro rfl (And.intro rfl (And.intro rfl (And.intro rfl (And.intro rfl trivial)))))
        · show S0 X _ M 57 [none, none, none, some (.int s7.2.1), none, some (.int x29)] [] _
          exact s_drop (hR14 (s7.2.1, x29) Le.rf) (And.intro rfl (And.intro rfl trivial))
        · show S0 X _ M 29 [some (.ref (gh (xG X) + a0)), some (.int p1), some (.int s19.1), some (.int s7.2.1), some (.int s7.2.2), some (.int s19.2)] [] _
          refine s_iload (pc := 29) dX11_poor_29 rfl ?_
          refine s_bipush (pc := 31) 6 dX11_poor_31 kb_6 ?_
          refine s_icge (pc := 33) 74 dX11_poor_33 rfl ?_ ?_
          · exact s_drop (hR24 s19.1 Le.rf) (And.intro rfl (And.intro rfl (And.intro rfl (And.intro rfl (And.intro rfl trivial)))))
          · refine s_aload_n (pc := 36) 0 dX11_poor_36 rfl rfl ?_
            refine s_geto (pc := 37) F_11 0 rfl o1 dX11_poor_37 kf_X11_10 ?_
            refine s_rvB (fun r31 => ?_)
            refine s_iload_n (pc := 40) 3 dX11_poor_40 rfl rfl ?_
            refine s_iload (pc := 41) dX11_poor_41 rfl ?_
            refine s_grd (fun o32 => ?_)
            refine s_bind (fun q33 hq34 => ?_)
            have hC35 := t_X10_isPoor (l := xl X) (G := xG X) hq34
            refine s_callV (pc := 43) (As := [.int s7.2.1, .int s19.2]) (st := []) (nlt rfl) (q := (RX10, TX10, 15)) rfl rfl o32 cl_X10_isPoor wi_X10_isPoor wl_X10_isPoor km_X11_272 rfl rfl (nle rfl) (nle rfl) (nle rfl) dX11_poor_43 hC35 ?_
            show S0 X _ M 46 [some (.ref (gh (xG X) + a0)), some (.int p1), some (.int s19.1), some (.int s7.2.1), some (.int s7.2.2), some (.int s19.2)] [.int q33] _
            refine s_join M (fun s37 : Int32 => M) 68 (fun s37 : Int32 => [some (.ref (gh (xG X) + a0)), some (.int p1), some (.int s37), some (.int s7.2.1), some (.int s7.2.2), some (.int s19.2)]) (fun s37 : Int32 => []) (fun s37 hs38 => ?_) (fun j36 hj39 => ?_)
            · show S0 X _ M 68 [some (.ref (gh (xG X) + a0)), some (.int p1), some (.int s37), some (.int s7.2.1), some (.int s7.2.2), some (.int s19.2)] [] _
              refine s_iinc (pc := 68) dX11_poor_68 rfl (v := s19.2 + 1) (congrArg (fun z : Int32 => s19.2 + z) kc_1) (nlt rfl) rfl (L' := [some (.ref (gh (xG X) + a0)), some (.int p1), some (.int s37), some (.int s7.2.1), some (.int s7.2.2), some (.int (s19.2 + 1))]) rfl ?_
              refine s_bv (fun x40 : Int32 => [some (.ref (gh (xG X) + a0)), some (.int p1), some (.int s37), some (.int s7.2.1), some (.int s7.2.2), some (.int x40)]) (fun x40 => ?_) rfl
              refine s_goto (pc := 71) 29 dX11_poor_71 rfl ?_
              exact s_drop (hT22 (s37, x40) Le.rf) (And.intro rfl (And.intro rfl (And.intro rfl (And.intro rfl (And.intro rfl (And.intro rfl trivial))))))
            · refine s_ifne (pc := 46) 52 dX11_poor_46 rfl ?_ ?_
              · refine s_iload_n (pc := 52) 2 dX11_poor_52 rfl rfl ?_
                refine s_iload_n (pc := 53) 1 dX11_poor_53 rfl rfl ?_
                refine s_icne (pc := 54) 65 dX11_poor_54 rfl ?_ ?_
                · refine s_iinc (pc := 65) dX11_poor_65 rfl (v := s19.1 + 1) (congrArg (fun z : Int32 => s19.1 + z) kc_1) (nlt rfl) rfl (L' := [some (.ref (gh (xG X) + a0)), some (.int p1), some (.int (s19.1 + 1)), some (.int s7.2.1), some (.int s7.2.2), some (.int s19.2)]) rfl ?_
                  refine s_bv (fun x41 : Int32 => [some (.ref (gh (xG X) + a0)), some (.int p1), some (.int x41), some (.int s7.2.1), some (.int s7.2.2), some (.int s19.2)]) (fun x41 => ?_) rfl
                  exact s_drop (hj39 x41 Le.rf) (And.intro rfl (And.intro rfl (And.intro rfl (And.intro rfl (And.intro rfl (And.intro rfl trivial))))))
                · exact s_drop (hR26 s19.2 Le.rf) (And.intro rfl (And.intro rfl trivial))
              · refine s_goto (pc := 49) 68 dX11_poor_49 rfl ?_
                exact s_drop (hj39 s19.1 Le.rf) (And.intro rfl (And.intro rfl (And.intro rfl (And.intro rfl (And.intro rfl (And.intro rfl trivial))))))
set_option maxRecDepth 100000 in
set_option maxHeartbeats 8000000 in
noncomputable def f_X11_put (M : Mem) (a0 : Nat) (p1 : Int32) (p2 : Int32) (p3 : Int32) : Option (Mem × Int32) :=
  Option.bind (f_X11_isThing p1) (fun q1 => bv (fun (s5 : Unit) => grd (okO M 11 a0) (Option.bind (f_X11_refuse M a0 (-1)) (fun q9 => some (q9.1, q9.2)))) (fun j4 => if q1 = 0 then (j4 ()) else (Option.bind (f_X11_isValueOf p1 p2 p3) (fun q14 => if q14 = 0 then (j4 ()) else (grd (okO M 11 a0) (Option.bind (mR M a0 0) (fun r18 => grd (okO M 10 r18) (Option.bind (f_X10_thingRow M r18 p2) (fun q20 => grd (okO M 14 q20) (grd (vp_in p1 (mL M q20)) (bv (mI M q20 p1.toNatClampNeg : Int32) (fun x25 => bv (wI M q20 p1.toNatClampNeg p3) (fun M26 => Option.bind (mR M26 a0 0) (fun r31 => grd (okO M26 10 r31) (Option.bind (f_X10_touchRules M26 r31) (fun q33 => Option.bind (f_X11_accept q33 a0 x25) (fun q39 => some (q39.1, q39.2))))))))))))))))))
abbrev Y_X11_put : Sta := (RX11, "put", cX11_put, 6, (some .int), 3)
set_option maxRecDepth 100000 in
set_option maxHeartbeats 8000000 in
theorem t_X11_put {l : Launch} {G : Gh} {M : Mem} {a0 : Nat} {p1 : Int32} {p2 : Int32} {p3 : Int32} {q : Mem × Int32} (h : f_X11_put M a0 p1 p2 p3 = some q) : Ctr l G yX11_put Y_X11_put M [.ref (gh G + a0), .int p1, .int p2, .int p3] q.1 (some (.int q.2)) := by
  refine Ctr.of (Y := Y_X11_put) (L := [some (.ref (gh G + a0)), some (.int p1), some (.int p2), some (.int p3), none, none]) (t := Option.bind (f_X11_put M a0 p1 p2 p3) (fun q => some (q.1, some (.int q.2)))) (by decide) rfl rfl (nle rfl) (Lof_in 2 _ rfl) (fun X hG hl => ?_) (by rw [h]; rfl)
  subst hG
  subst hl
  unfold f_X11_put
  refine s_iload_n (pc := 0) 1 dX11_put_0 rfl rfl ?_
  refine s_bind (fun q1 hq2 => ?_)
  have hC3 := t_X11_isThing (l := xl X) (G := xG X) (M := M) hq2
  refine s_callS (pc := 1) (As := [.int p1]) (st := []) cl_X11_isThing wt_X11_isThing km_X11_89 rfl rfl (nle rfl) (nle rfl) (nle rfl) dX11_put_1 hC3 ?_
  show S0 X _ M 4 [some (.ref (gh (xG X) + a0)), some (.int p1), some (.int p2), some (.int p3), none, none] [.int q1] _
  refine s_join M (fun s5 : Unit => M) 16 (fun s5 : Unit => [some (.ref (gh (xG X) + a0)), none, none, none, none, none]) (fun s5 : Unit => []) (fun s5 hs6 => ?_) (fun j4 hj7 => ?_)
  · show S0 X _ M 16 [some (.ref (gh (xG X) + a0)), none, none, none, none, none] [] _
    refine s_aload_n (pc := 16) 0 dX11_put_16 rfl rfl ?_
    refine s_iconst (pc := 17) (-1) dX11_put_17 kc_m1 ?_
    refine s_grd (fun o8 => ?_)
    refine s_bind (fun q9 hq10 => ?_)
    have hC11 := t_X11_refuse (l := xl X) (G := xG X) hq10
    refine s_callV (pc := 18) (As := [.int (-1)]) (st := []) (nlt rfl) (q := (RX11, TX11, 16)) rfl rfl o8 cl_X11_refuse wi_X11_refuse wl_X11_refuse km_X11_97 rfl rfl (nle rfl) (nle rfl) (nle rfl) dX11_put_18 hC11 ?_
    have h12 := hC11.1 X
    have o13 := h12.ok o8
    show S0 X _ q9.1 21 [some (.ref (gh (xG X) + a0)), none, none, none, none, none] [.int q9.2] _
    exact s_iret rfl dX11_put_21
  · refine s_ifeq (pc := 4) 16 dX11_put_4 rfl ?_ ?_
    · exact s_drop (hj7 () Le.rf) (And.intro rfl trivial)
    · refine s_iload_n (pc := 7) 1 dX11_put_7 rfl rfl ?_
      refine s_iload_n (pc := 8) 2 dX11_put_8 rfl rfl ?_
      refine s_iload_n (pc := 9) 3 dX11_put_9 rfl rfl ?_
      refine s_bind (fun q14 hq15 => ?_)
      have hC16 := t_X11_isValueOf (l := xl X) (G := xG X) (M := M) hq15
      refine s_callS (pc := 10) (As := [.int p1, .int p2, .int p3]) (st := []) cl_X11_isValueOf wt_X11_isValueOf km_X11_93 rfl rfl (nle rfl) (nle rfl) (nle rfl) dX11_put_10 hC16 ?_
      show S0 X _ M 13 [some (.ref (gh (xG X) + a0)), some (.int p1), some (.int p2), some (.int p3), none, none] [.int q14] _
      refine s_ifne (pc := 13) 22 dX11_put_13 rfl ?_ ?_
      · refine s_aload_n (pc := 22) 0 dX11_put_22 rfl rfl ?_
        refine s_grd (fun o17 => ?_)
        refine s_geto (pc := 23) F_11 0 rfl o17 dX11_put_23 kf_X11_10 ?_
        refine s_rvB (fun r18 => ?_)
        refine s_iload_n (pc := 26) 2 dX11_put_26 rfl rfl ?_
        refine s_grd (fun o19 => ?_)
        refine s_bind (fun q20 hq21 => ?_)
        have hC22 := t_X10_thingRow (l := xl X) (G := xG X) hq21
        refine s_callV (pc := 27) (As := [.int p2]) (st := []) (nlt rfl) (q := (RX10, TX10, 15)) rfl rfl o19 cl_X10_thingRow wi_X10_thingRow wl_X10_thingRow km_X11_101 rfl rfl (nle rfl) (nle rfl) (nle rfl) dX11_put_27 hC22 ?_
        show S0 X _ M 30 [some (.ref (gh (xG X) + a0)), some (.int p1), some (.int p2), some (.int p3), none, none] [.ref (gh (xG X) + q20)] _
        refine s_astore (pc := 30) dX11_put_30 (nlt rfl) rfl (L' := [some (.ref (gh (xG X) + a0)), some (.int p1), some (.int p2), some (.int p3), some (.ref (gh (xG X) + q20)), none]) rfl ?_
        refine s_aload (pc := 32) dX11_put_32 rfl ?_
        refine s_iload_n (pc := 34) 1 dX11_put_34 rfl rfl ?_
        refine s_grd (fun o23 => ?_)
        refine s_grd (fun i24 => ?_)
        refine s_iald (pc := 35) o23 i24 dX11_put_35 ?_
        refine s_istore (pc := 36) dX11_put_36 (nlt rfl) rfl (L' := [some (.ref (gh (xG X) + a0)), some (.int p1), some (.int p2), some (.int p3), some (.ref (gh (xG X) + q20)), some (.int (mI M q20 p1.toNatClampNeg))]) rfl ?_
        refine s_bv (fun x25 : Int32 => [some (.ref (gh (xG X) + a0)), some (.int p1), some (.int p2), some (.int p3), some (.ref (gh (xG X) + q20)), some (.int x25)]) (fun x25 => ?_) rfl
        refine s_aload (pc := 38) dX11_put_38 rfl ?_
        refine s_iload_n (pc := 40) 1 dX11_put_40 rfl rfl ?_
        refine s_iload_n (pc := 41) 3 dX11_put_41 rfl rfl ?_
        refine s_iast (pc := 42) o23 i24 dX11_put_42 (fun M26 hM27 => ?_)
        have h28 := le_wI hM27
        have o29 := h28.ok o17
        have o30 := h28.ok o23
        refine s_aload_n (pc := 43) 0 dX11_put_43 rfl rfl ?_
        refine s_geto (pc := 44) F_11 0 rfl o29 dX11_put_44 kf_X11_10 ?_
        refine s_rvB (fun r31 => ?_)
        refine s_grd (fun o32 => ?_)
        refine s_bind (fun q33 hq34 => ?_)
        have hC35 := t_X10_touchRules (l := xl X) (G := xG X) hq34
        refine s_callV (pc := 47) (As := []) (st := []) (nlt rfl) (q := (RX10, TX10, 15)) rfl rfl o32 cl_X10_touchRules wi_X10_touchRules wl_X10_touchRules km_X11_105 rfl rfl (nle rfl) (nle rfl) (nle rfl) dX11_put_47 hC35 ?_
        have h36 := hC35.1 X
        have o37 := h36.ok o29
        have o38 := h36.ok o30
        show S0 X _ q33 50 [some (.ref (gh (xG X) + a0)), some (.int p1), some (.int p2), some (.int p3), some (.ref (gh (xG X) + q20)), some (.int x25)] [] _
        refine s_aload_n (pc := 50) 0 dX11_put_50 rfl rfl ?_
        refine s_iload (pc := 51) dX11_put_51 rfl ?_
        refine s_bind (fun q39 hq40 => ?_)
        have hC41 := t_X11_accept (l := xl X) (G := xG X) hq40
        refine s_callV (pc := 53) (As := [.int x25]) (st := []) (nlt rfl) (q := (RX11, TX11, 16)) rfl rfl o37 cl_X11_accept wi_X11_accept wl_X11_accept km_X11_108 rfl rfl (nle rfl) (nle rfl) (nle rfl) dX11_put_53 hC41 ?_
        have h42 := hC41.1 X
        have o43 := h42.ok o37
        have o44 := h42.ok o38
        show S0 X _ q39.1 56 [some (.ref (gh (xG X) + a0)), some (.int p1), some (.int p2), some (.int p3), some (.ref (gh (xG X) + q20)), some (.int x25)] [.int q39.2] _
        exact s_iret rfl dX11_put_56
      · exact s_drop (hj7 () Le.rf) (And.intro rfl trivial)
