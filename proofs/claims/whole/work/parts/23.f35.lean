set_option maxRecDepth 100000 in
set_option maxHeartbeats 8000000 in
noncomputable def f_X12_between (M : Mem) (a0 : Nat) (p1 : Int32) (p2 : Int32) : Option (Mem × Int32) :=
  grd (okO M 12 a0) (Option.bind (f_X12_isHouse M a0 p1) (fun q2 => if q2 = 0 then (some (M, (-1))) else (Option.bind (f_X12_fact M a0 p1 0) (fun q5 => if q5 = (-1) then (some (M, (-1))) else (Option.bind (f_X12_fact M a0 p1 0) (fun q8 => Option.bind (f_X12_fact M a0 q8 2) (fun q11 => Option.bind (f_X12_fact M a0 p1 1) (fun q14 => Option.bind (f_X12_lists M a0 q11 q14 0) (fun q17 => Option.bind (loopO (σ := Mem × Int32 × Int32) (ρ := Mem × Int32) (fun s22 => if (mI s22.1 a0 11) ≤ s22.2.2 then (some (.inr (s22.1, s22.2.1))) else (Option.bind (loopO (σ := Int32 × Int32) (ρ := Int32) (fun s31 => if s22.2.1 ≤ s31.2 then (some (.inr s31.1)) else (bv (fun (s40 : Int32) => bv (s31.2 + 1 : Int32) (fun x43 => some (.inl (s40, x43)))) (fun j39 => bv (fun (s45 : Unit) => j39 0) (fun j44 => if s31.1 = 0 then (j44 ()) else (Option.bind (mR s22.1 a0 38) (fun r48 => grd (okO s22.1 14 r48) (grd (vp_in s31.2 (mL s22.1 r48)) (Option.bind (mR s22.1 a0 9) (fun r51 => grd (okO s22.1 14 r51) (grd (vp_in s22.2.2 (mL s22.1 r51)) (if (mI s22.1 r48 s31.2.toNatClampNeg) = (mI s22.1 r51 s22.2.2.toNatClampNeg) then (j44 ()) else (j39 1)))))))))))) (1, 0)) (fun (x37 : Int32) => bv (fun (s55 : Mem × Int32) => bv (s22.2.2 + 1 : Int32) (fun x59 => some (.inl (s55.1, s55.2, x59)))) (fun j54 => if x37 = 0 then (j54 (s22.1, s22.2.1)) else (Option.bind (loopO (σ := Mem × Int32) (ρ := Mem × Int32) (fun s60 => if s60.2 ≤ 0 then (some (.inr (s60.1, s60.2))) else (Option.bind (mR s60.1 a0 38) (fun r69 => grd (okO s60.1 14 r69) (grd (vp_in (s60.2 - 1) (mL s60.1 r69)) (Option.bind (mR s60.1 a0 9) (fun r72 => grd (okO s60.1 14 r72) (grd (vp_in s22.2.2 (mL s60.1 r72)) (if (mI s60.1 r69 (s60.2 - 1).toNatClampNeg) ≤ (mI s60.1 r72 s22.2.2.toNatClampNeg) then (some (.inr (s60.1, s60.2))) else (Option.bind (mR s60.1 a0 38) (fun r75 => Option.bind (mR s60.1 a0 38) (fun r76 => grd (okO s60.1 14 r76) (grd (vp_in (s60.2 - 1) (mL s60.1 r76)) (grd (okO s60.1 14 r75) (grd (vp_in s60.2 (mL s60.1 r75)) (bv (wI s60.1 r75 s60.2.toNatClampNeg (mI s60.1 r76 (s60.2 - 1).toNatClampNeg)) (fun M81 => bv (s60.2 + (-1) : Int32) (fun x85 => some (.inl (M81, x85))))))))))))))))))) (s22.1, s22.2.1)) (fun (x67 : Mem × Int32) => Option.bind (mR x67.1 a0 38) (fun r87 => Option.bind (mR x67.1 a0 9) (fun r88 => grd (okO x67.1 14 r88) (grd (vp_in s22.2.2 (mL x67.1 r88)) (grd (okO x67.1 14 r87) (grd (vp_in x67.2 (mL x67.1 r87)) (bv (wI x67.1 r87 x67.2.toNatClampNeg (mI x67.1 r88 s22.2.2.toNatClampNeg)) (fun M93 => bv (s22.2.1 + 1 : Int32) (fun x97 => j54 (M93, x97))))))))))))))) (q17, 0, 0)) (fun (x29 : Mem × Int32) => Option.bind (loopO (σ := Mem × Int32 × Int32) (ρ := (Mem × Int32) ⊕ (Mem × Int32)) (fun s99 => if x29.2 ≤ s99.2.2 then (some (.inr (.inl (s99.1, s99.2.1)))) else (Option.bind (mR s99.1 a0 38) (fun r112 => grd (okO s99.1 14 r112) (grd (vp_in s99.2.2 (mL s99.1 r112)) (Option.bind (f_X12_fact s99.1 a0 p1 2) (fun q115 => Option.bind (f_X12_fact s99.1 a0 p1 1) (fun q118 => Option.bind (f_X12_leadsTo s99.1 a0 (mI s99.1 r112 s99.2.2.toNatClampNeg) q115 q118) (fun q121 => bv (fun (s127 : Int32) => bv (s99.2.2 + 1 : Int32) (fun x130 => some (.inl (q121.1, s127, x130)))) (fun j126 => if q121.2 = 0 then (j126 s99.2.1) else (if s99.2.1 = p2 then (some (.inr (.inr (q121.1, s99.2.2)))) else (bv (s99.2.1 + 1 : Int32) (fun x131 => j126 x131)))))))))))) (x29.1, 0, 0)) (Sum.elim (fun (x108 : Mem × Int32) => if p2 = (-1) then (some (x108.1, x108.2)) else (some (x108.1, (-1)))) (fun (x110 : Mem × Int32) => Option.bind (mR x110.1 a0 38) (fun r133 => grd (okO x110.1 14 r133) (grd (vp_in x110.2 (mL x110.1 r133)) (some (x110.1, mI x110.1 r133 x110.2.toNatClampNeg))))))))))))))))
abbrev Y_X12_between : Sta := (RX12, "between", cX12_between, 8, (some .int), 209)
set_option maxRecDepth 100000 in
set_option maxHeartbeats 8000000 in
theorem t_X12_between {l : Launch} {G : Gh} {M : Mem} {a0 : Nat} {p1 : Int32} {p2 : Int32} {q : Mem × Int32} (h : f_X12_between M a0 p1 p2 = some q) : Ctr l G yX12_between Y_X12_between M [.ref (gh G + a0), .int p1, .int p2] q.1 (some (.int q.2)) := by
  refine Ctr.of (Y := Y_X12_between) (L := [some (.ref (gh G + a0)), some (.int p1), some (.int p2), none, none, none, none, none]) (t := Option.bind (f_X12_between M a0 p1 p2) (fun q => some (q.1, some (.int q.2)))) (by decide) rfl rfl (nle rfl) (Lof_in 5 _ rfl) (fun X hG hl => ?_) (by rw [h]; rfl)
  subst hG
  subst hl
  unfold f_X12_between
  refine s_aload_n (pc := 0) 0 dX12_between_0 rfl rfl ?_
  refine s_iload_n (pc := 1) 1 dX12_between_1 rfl rfl ?_
  refine s_grd (fun o1 => ?_)
  refine s_bind (fun q2 hq3 => ?_)
  have hC4 := t_X12_isHouse (l := xl X) (G := xG X) hq3
  refine s_callV (pc := 2) (As := [.int p1]) (st := []) (nlt rfl) (q := (RX12, TX12, 59)) rfl rfl o1 cl_X12_isHouse wi_X12_isHouse wl_X12_isHouse km_X12_191 rfl rfl (nle rfl) (nle rfl) (nle rfl) dX12_between_2 hC4 ?_
  show S0 X _ M 5 [some (.ref (gh (xG X) + a0)), some (.int p1), some (.int p2), none, none, none, none, none] [.int q2] _
  refine s_ifeq (pc := 5) 18 dX12_between_5 rfl ?_ ?_
  · refine s_iconst (pc := 18) (-1) dX12_between_18 kc_m1 ?_
    exact s_iret rfl dX12_between_19
  · refine s_aload_n (pc := 8) 0 dX12_between_8 rfl rfl ?_
    refine s_iload_n (pc := 9) 1 dX12_between_9 rfl rfl ?_
    refine s_iconst (pc := 10) 0 dX12_between_10 kc_0 ?_
    refine s_bind (fun q5 hq6 => ?_)
    have hC7 := t_X12_fact (l := xl X) (G := xG X) hq6
    refine s_callV (pc := 11) (As := [.int p1, .int 0]) (st := []) (nlt rfl) (q := (RX12, TX12, 59)) rfl rfl o1 cl_X12_fact wi_X12_fact wl_X12_fact km_X12_194 rfl rfl (nle rfl) (nle rfl) (nle rfl) dX12_between_11 hC7 ?_
    show S0 X _ M 14 [some (.ref (gh (xG X) + a0)), some (.int p1), some (.int p2), none, none, none, none, none] [.int q5] _
    refine s_iconst (pc := 14) (-1) dX12_between_14 kc_m1 ?_
    refine s_icne (pc := 15) 20 dX12_between_15 rfl ?_ ?_
    · refine s_aload_n (pc := 20) 0 dX12_between_20 rfl rfl ?_
      refine s_aload_n (pc := 21) 0 dX12_between_21 rfl rfl ?_
      refine s_aload_n (pc := 22) 0 dX12_between_22 rfl rfl ?_
      refine s_iload_n (pc := 23) 1 dX12_between_23 rfl rfl ?_
      refine s_iconst (pc := 24) 0 dX12_between_24 kc_0 ?_
      refine s_bind (fun q8 hq9 => ?_)
      have hC10 := t_X12_fact (l := xl X) (G := xG X) hq9
      refine s_callV (pc := 25) (As := [.int p1, .int 0]) (st := [.ref (gh (xG X) + a0), .ref (gh (xG X) + a0)]) (nlt rfl) (q := (RX12, TX12, 59)) rfl rfl o1 cl_X12_fact wi_X12_fact wl_X12_fact km_X12_194 rfl rfl (nle rfl) (nle rfl) (nle rfl) dX12_between_25 hC10 ?_
      show S0 X _ M 28 [some (.ref (gh (xG X) + a0)), some (.int p1), some (.int p2), none, none, none, none, none] [.int q8, .ref (gh (xG X) + a0), .ref (gh (xG X) + a0)] _
      refine s_iconst (pc := 28) 2 dX12_between_28 kc_2 ?_
      refine s_bind (fun q11 hq12 => ?_)
      have hC13 := t_X12_fact (l := xl X) (G := xG X) hq12
      refine s_callV (pc := 29) (As := [.int q8, .int 2]) (st := [.ref (gh (xG X) + a0)]) (nlt rfl) (q := (RX12, TX12, 59)) rfl rfl o1 cl_X12_fact wi_X12_fact wl_X12_fact km_X12_194 rfl rfl (nle rfl) (nle rfl) (nle rfl) dX12_between_29 hC13 ?_
      show S0 X _ M 32 [some (.ref (gh (xG X) + a0)), some (.int p1), some (.int p2), none, none, none, none, none] [.int q11, .ref (gh (xG X) + a0)] _
      refine s_aload_n (pc := 32) 0 dX12_between_32 rfl rfl ?_
      refine s_iload_n (pc := 33) 1 dX12_between_33 rfl rfl ?_
      refine s_iconst (pc := 34) 1 dX12_between_34 kc_1 ?_
      refine s_bind (fun q14 hq15 => ?_)
      have hC16 := t_X12_fact (l := xl X) (G := xG X) hq15
      refine s_callV (pc := 35) (As := [.int p1, .int 1]) (st := [.int q11, .ref (gh (xG X) + a0)]) (nlt rfl) (q := (RX12, TX12, 59)) rfl rfl o1 cl_X12_fact wi_X12_fact wl_X12_fact km_X12_194 rfl rfl (nle rfl) (nle rfl) (nle rfl) dX12_between_35 hC16 ?_
      show S0 X _ M 38 [some (.ref (gh (xG X) + a0)), some (.int p1), some (.int p2), none, none, none, none, none] [.int q14, .int q11, .ref (gh (xG X) + a0)] _
      refine s_iconst (pc := 38) 0 dX12_between_38 kc_0 ?_
      refine s_bind (fun q17 hq18 => ?_)
      have hC19 := t_X12_lists (l := xl X) (G := xG X) hq18
      refine s_callV (pc := 39) (As := [.int q11, .int q14, .int 0]) (st := []) (nlt rfl) (q := (RX12, TX12, 59)) rfl rfl o1 cl_X12_lists wi_X12_lists wl_X12_lists km_X12_187 rfl rfl (nle rfl) (nle rfl) (nle rfl) dX12_between_39 hC19 ?_
      have h20 := hC19.1 X
      have o21 := h20.ok o1
      show S0 X _ q17 42 [some (.ref (gh (xG X) + a0)), some (.int p1), some (.int p2), none, none, none, none, none] [] _
      refine s_iconst (pc := 42) 0 dX12_between_42 kc_0 ?_
      refine s_istore_n (pc := 43) 3 dX12_between_43 rfl (nlt rfl) rfl (L' := [some (.ref (gh (xG X) + a0)), some (.int p1), some (.int p2), some (.int 0), none, none, none, none]) rfl ?_
      refine s_iconst (pc := 44) 0 dX12_between_44 kc_0 ?_
      refine s_istore (pc := 45) dX12_between_45 (nlt rfl) rfl (L' := [some (.ref (gh (xG X) + a0)), some (.int p1), some (.int p2), some (.int 0), some (.int 0), none, none, none]) rfl ?_
      refine s_drop (L' := [some (.ref (gh (xG X) + a0)), some (.int p1), some (.int p2), some (.int 0), some (.int 0), none, none, none]) ?_ (And.intro rfl (And.intro rfl (And.intro rfl (And.intro rfl (And.intro rfl trivial)))))
      refine s_loop1 q17 (fun s22 : Mem × Int32 × Int32 => s22.1) (fun s22 : Mem × Int32 × Int32 => [some (.ref (gh (xG X) + a0)), some (.int p1), some (.int p2), some (.int s22.2.1), some (.int s22.2.2), none, none, none]) (fun x29 : Mem × Int32 => x29.1) 183 (fun x29 : Mem × Int32 => [some (.ref (gh (xG X) + a0)), some (.int p1), some (.int p2), some (.int x29.2), none, none, none, none]) (fun x29 hx30 => ?_) (fun T24 R26 hT25 hR27 s22 hs23 => ?_) (q17, 0, 0) Le.rf
      · show S0 X _ x29.1 183 [some (.ref (gh (xG X) + a0)), some (.int p1), some (.int p2), some (.int x29.2), none, none, none, none] [] _
        have o98 := hx30.ok o21
        refine s_iconst (pc := 183) 0 dX12_between_183 kc_0 ?_
        refine s_istore (pc := 184) dX12_between_184 (nlt rfl) rfl (L' := [some (.ref (gh (xG X) + a0)), some (.int p1), some (.int p2), some (.int x29.2), some (.int 0), none, none, none]) rfl ?_
        refine s_iconst (pc := 186) 0 dX12_between_186 kc_0 ?_
        refine s_istore (pc := 187) dX12_between_187 (nlt rfl) rfl (L' := [some (.ref (gh (xG X) + a0)), some (.int p1), some (.int p2), some (.int x29.2), some (.int 0), some (.int 0), none, none]) rfl ?_
        refine s_drop (L' := [some (.ref (gh (xG X) + a0)), some (.int p1), some (.int p2), some (.int x29.2), some (.int 0), some (.int 0), none, none]) ?_ (And.intro rfl (And.intro rfl (And.intro rfl (And.intro rfl (And.intro rfl (And.intro rfl trivial))))))
        refine s_loop2 x29.1 (fun s99 : Mem × Int32 × Int32 => s99.1) (fun s99 : Mem × Int32 × Int32 => [some (.ref (gh (xG X) + a0)), some (.int p1), some (.int p2), some (.int x29.2), some (.int s99.2.1), some (.int s99.2.2), none, none]) (fun x108 : Mem × Int32 => x108.1) 247 (fun x108 : Mem × Int32 => [none, none, some (.int p2), none, some (.int x108.2), none, none, none]) (fun x110 : Mem × Int32 => x110.1) 230 (fun x110 : Mem × Int32 => [some (.ref (gh (xG X) + a0)), none, none, none, none, some (.int x110.2), none, none]) (fun x108 hx109 => ?_) (fun x110 hx111 => ?_) (fun T101 R103 R105 hT102 hR104 hR106 s99 hs100 => ?_) (x29.1, 0, 0) Le.rf
        · show S0 X _ x108.1 247 [none, none, some (.int p2), none, some (.int x108.2), none, none, none] [] _
          refine s_iload_n (pc := 247) 2 dX12_between_247 rfl rfl ?_
          refine s_iconst (pc := 248) (-1) dX12_between_248 kc_m1 ?_
          refine s_icne (pc := 249) 257 dX12_between_249 rfl ?_ ?_
          · refine s_iconst (pc := 257) (-1) dX12_between_257 kc_m1 ?_
            exact s_iret rfl dX12_between_258
          · refine s_iload (pc := 252) dX12_between_252 rfl ?_
            refine s_goto (pc := 254) 258 dX12_between_254 rfl ?_
            exact s_iret rfl dX12_between_258
        · show S0 X _ x110.1 230 [some (.ref (gh (xG X) + a0)), none, none, none, none, some (.int x110.2), none, none] [] _
          have o132 := hx111.ok o98
          refine s_aload_n (pc := 230) 0 dX12_between_230 rfl rfl ?_
          refine s_geto (pc := 231) F_12 38 rfl o132 dX12_between_231 kf_X12_86 ?_
          refine s_rvB (fun r133 => ?_)
          refine s_iload (pc := 234) dX12_between_234 rfl ?_
          refine s_grd (fun o134 => ?_)
          refine s_grd (fun i135 => ?_)
          refine s_iald (pc := 236) o134 i135 dX12_between_236 ?_
          exact s_iret rfl dX12_between_237
        · show S0 X _ s99.1 189 [some (.ref (gh (xG X) + a0)), some (.int p1), some (.int p2), some (.int x29.2), some (.int s99.2.1), some (.int s99.2.2), none, none] [] _
          have o107 := hs100.ok o98
          refine s_iload (pc := 189) dX12_between_189 rfl ?_
          refine s_iload_n (pc := 191) 3 dX12_between_191 rfl rfl ?_
          refine s_icge (pc := 192) 247 dX12_between_192 rfl ?_ ?_
          · exact s_drop (hR104 (s99.1, s99.2.1) hs100) (And.intro rfl (And.intro rfl trivial))
          · refine s_aload_n (pc := 195) 0 dX12_between_195 rfl rfl ?_
            refine s_aload_n (pc := 196) 0 dX12_between_196 rfl rfl ?_
            refine s_geto (pc := 197) F_12 38 rfl o107 dX12_between_197 kf_X12_86 ?_
            refine s_rvB (fun r112 => ?_)
            refine s_iload (pc := 200) dX12_between_200 rfl ?_
            refine s_grd (fun o113 => ?_)
            refine s_grd (fun i114 => ?_)
            refine s_iald (pc := 202) o113 i114 dX12_between_202 ?_
            refine s_aload_n (pc := 203) 0 dX12_between_203 rfl rfl ?_
            refine s_iload_n (pc := 204) 1 dX12_between_204 rfl rfl ?_
            refine s_iconst (pc := 205) 2 dX12_between_205 kc_2 ?_
            refine s_bind (fun q115 hq116 => ?_)
            have hC117 := t_X12_fact (l := xl X) (G := xG X) hq116
            refine s_callV (pc := 206) (As := [.int p1, .int 2]) (st := [.int (mI s99.1 r112 s99.2.2.toNatClampNeg), .ref (gh (xG X) + a0)]) (nlt rfl) (q := (RX12, TX12, 59)) rfl rfl o107 cl_X12_fact wi_X12_fact wl_X12_fact km_X12_194 rfl rfl (nle rfl) (nle rfl) (nle rfl) dX12_between_206 hC117 ?_
            show S0 X _ s99.1 209 [some (.ref (gh (xG X) + a0)), some (.int p1), some (.int p2), some (.int x29.2), some (.int s99.2.1), some (.int s99.2.2), none, none] [.int q115, .int (mI s99.1 r112 s99.2.2.toNatClampNeg), .ref (gh (xG X) + a0)] _
            refine s_aload_n (pc := 209) 0 dX12_between_209 rfl rfl ?_
            refine s_iload_n (pc := 210) 1 dX12_between_210 rfl rfl ?_
            refine s_iconst (pc := 211) 1 dX12_between_211 kc_1 ?_
            refine s_bind (fun q118 hq119 => ?_)
            have hC120 := t_X12_fact (l := xl X) (G := xG X) hq119
            refine s_callV (pc := 212) (As := [.int p1, .int 1]) (st := [.int q115, .int (mI s99.1 r112 s99.2.2.toNatClampNeg), .ref (gh (xG X) + a0)]) (nlt rfl) (q := (RX12, TX12, 59)) rfl rfl o107 cl_X12_fact wi_X12_fact wl_X12_fact km_X12_194 rfl rfl (nle rfl) (nle rfl) (nle rfl) dX12_between_212 hC120 ?_
            show S0 X _ s99.1 215 [some (.ref (gh (xG X) + a0)), some (.int p1), some (.int p2), some (.int x29.2), some (.int s99.2.1), some (.int s99.2.2), none, none] [.int q118, .int q115, .int (mI s99.1 r112 s99.2.2.toNatClampNeg), .ref (gh (xG X) + a0)] _
            refine s_bind (fun q121 hq122 => ?_)
            have hC123 := t_X12_leadsTo (l := xl X) (G := xG X) hq122
            refine s_callV (pc := 215) (As := [.int (mI s99.1 r112 s99.2.2.toNatClampNeg), .int q115, .int q118]) (st := []) (nlt rfl) (q := (RX12, TX12, 59)) rfl rfl o107 cl_X12_leadsTo wi_X12_leadsTo wl_X12_leadsTo km_X12_380 rfl rfl (nle rfl) (nle rfl) (nle rfl) dX12_between_215 hC123 ?_
            have h124 := hC123.1 X
            have o125 := h124.ok o107
            show S0 X _ q121.1 218 [some (.ref (gh (xG X) + a0)), some (.int p1), some (.int p2), some (.int x29.2), some (.int s99.2.1), some (.int s99.2.2), none, none] [.int q121.2] _
            refine s_join q121.1 (fun s127 : Int32 => q121.1) 241 (fun s127 : Int32 => [some (.ref (gh (xG X) + a0)), some (.int p1), some (.int p2), some (.int x29.2), some (.int s127), some (.int s99.2.2), none, none]) (fun s127 : Int32 => []) (fun s127 hs128 => ?_) (fun j126 hj129 => ?_)
            · show S0 X _ q121.1 241 [some (.ref (gh (xG X) + a0)), some (.int p1), some (.int p2), some (.int x29.2), some (.int s127), some (.int s99.2.2), none, none] [] _
              refine s_iinc (pc := 241) dX12_between_241 rfl (v := s99.2.2 + 1) (congrArg (fun z : Int32 => s99.2.2 + z) kc_1) (nlt rfl) rfl (L' := [some (.ref (gh (xG X) + a0)), some (.int p1), some (.int p2), some (.int x29.2), some (.int s127), some (.int (s99.2.2 + 1)), none, none]) rfl ?_
              refine s_bv (fun x130 : Int32 => [some (.ref (gh (xG X) + a0)), some (.int p1), some (.int p2), some (.int x29.2), some (.int s127), some (.int x130), none, none]) (fun x130 => ?_) rfl
              refine s_goto (pc := 244) 189 dX12_between_244 rfl ?_
              exact s_drop (hT102 (q121.1, s127, x130) (hs100.tr h124)) (And.intro rfl (And.intro rfl (And.intro rfl (And.intro rfl (And.intro rfl (And.intro rfl trivial))))))
            · refine s_ifne (pc := 218) 224 dX12_between_218 rfl ?_ ?_
              · refine s_iload (pc := 224) dX12_between_224 rfl ?_
                refine s_iload_n (pc := 226) 2 dX12_between_226 rfl rfl ?_
                refine s_icne (pc := 227) 238 dX12_between_227 rfl ?_ ?_
                · refine s_iinc (pc := 238) dX12_between_238 rfl (v := s99.2.1 + 1) (congrArg (fun z : Int32 => s99.2.1 + z) kc_1) (nlt rfl) rfl (L' := [some (.ref (gh (xG X) + a0)), some (.int p1), some (.int p2), some (.int x29.2), some (.int (s99.2.1 + 1)), some (.int s99.2.2), none, none]) rfl ?_
                  refine s_bv (fun x131 : Int32 => [some (.ref (gh (xG X) + a0)), some (.int p1), some (.int p2), some (.int x29.2), some (.int x131), some (.int s99.2.2), none, none]) (fun x131 => ?_) rfl
                  exact s_drop (hj129 x131 Le.rf) (And.intro rfl (And.intro rfl (And.intro rfl (And.intro rfl (And.intro rfl (And.intro rfl trivial))))))
                · exact s_drop (hR106 (q121.1, s99.2.2) (hs100.tr h124)) (And.intro rfl (And.intro rfl trivial))
              · refine s_goto (pc := 221) 241 dX12_between_221 rfl ?_
                exact s_drop (hj129 s99.2.1 Le.rf) (And.intro rfl (And.intro rfl (And.intro rfl (And.intro rfl (And.intro rfl (And.intro rfl trivial))))))
      · show S0 X _ s22.1 47 [some (.ref (gh (xG X) + a0)), some (.int p1), some (.int p2), some (.int s22.2.1), some (.int s22.2.2), none, none, none] [] _
        have o28 := hs23.ok o21
        refine s_iload (pc := 47) dX12_between_47 rfl ?_
        refine s_aload_n (pc := 49) 0 dX12_between_49 rfl rfl ?_
        refine s_geti (pc := 50) F_12 11 rfl o28 dX12_between_50 kf_X12_174 ?_
        refine s_icge (pc := 53) 183 dX12_between_53 rfl ?_ ?_
        · exact s_drop (hR27 (s22.1, s22.2.1) hs23) (And.intro rfl (And.intro rfl (And.intro rfl (And.intro rfl trivial))))
        · refine s_iload_n (pc := 56) 3 dX12_between_56 rfl rfl ?_
          refine s_istore (pc := 57) dX12_between_57 (nlt rfl) rfl (L' := [some (.ref (gh (xG X) + a0)), some (.int p1), some (.int p2), some (.int s22.2.1), some (.int s22.2.2), some (.int s22.2.1), none, none]) rfl ?_
          refine s_iconst (pc := 59) 1 dX12_between_59 kc_1 ?_
          refine s_istore (pc := 60) dX12_between_60 (nlt rfl) rfl (L' := [some (.ref (gh (xG X) + a0)), some (.int p1), some (.int p2), some (.int s22.2.1), some (.int s22.2.2), some (.int s22.2.1), some (.int 1), none]) rfl ?_
          refine s_iconst (pc := 62) 0 dX12_between_62 kc_0 ?_
          refine s_istore (pc := 63) dX12_between_63 (nlt rfl) rfl (L' := [some (.ref (gh (xG X) + a0)), some (.int p1), some (.int p2), some (.int s22.2.1), some (.int s22.2.2), some (.int s22.2.1), some (.int 1), some (.int 0)]) rfl ?_
          refine s_drop (L' := [some (.ref (gh (xG X) + a0)), some (.int p1), some (.int p2), some (.int s22.2.1), some (.int s22.2.2), some (.int s22.2.1), some (.int 1), some (.int 0)]) ?_ (And.intro rfl (And.intro rfl (And.intro rfl (And.intro rfl (And.intro rfl (And.intro rfl (And.intro rfl (And.intro rfl trivial))))))))
          refine s_loop1 s22.1 (fun s31 : Int32 × Int32 => s22.1) (fun s31 : Int32 × Int32 => [some (.ref (gh (xG X) + a0)), some (.int p1), some (.int p2), some (.int s22.2.1), some (.int s22.2.2), some (.int s22.2.1), some (.int s31.1), some (.int s31.2)]) (fun x37 : Int32 => s22.1) 106 (fun x37 : Int32 => [some (.ref (gh (xG X) + a0)), some (.int p1), some (.int p2), some (.int s22.2.1), some (.int s22.2.2), some (.int s22.2.1), some (.int x37), none]) (fun x37 hx38 => ?_) (fun T33 R35 hT34 hR36 s31 hs32 => ?_) (1, 0) Le.rf
          · show S0 X _ s22.1 106 [some (.ref (gh (xG X) + a0)), some (.int p1), some (.int p2), some (.int s22.2.1), some (.int s22.2.2), some (.int s22.2.1), some (.int x37), none] [] _
            refine s_iload (pc := 106) dX12_between_106 rfl ?_
            refine s_join s22.1 (fun s55 : Mem × Int32 => s55.1) 177 (fun s55 : Mem × Int32 => [some (.ref (gh (xG X) + a0)), some (.int p1), some (.int p2), some (.int s55.2), some (.int s22.2.2), none, none, none]) (fun s55 : Mem × Int32 => []) (fun s55 hs56 => ?_) (fun j54 hj57 => ?_)
            · show S0 X _ s55.1 177 [some (.ref (gh (xG X) + a0)), some (.int p1), some (.int p2), some (.int s55.2), some (.int s22.2.2), none, none, none] [] _
              have o58 := hs56.ok o28
              refine s_iinc (pc := 177) dX12_between_177 rfl (v := s22.2.2 + 1) (congrArg (fun z : Int32 => s22.2.2 + z) kc_1) (nlt rfl) rfl (L' := [some (.ref (gh (xG X) + a0)), some (.int p1), some (.int p2), some (.int s55.2), some (.int (s22.2.2 + 1)), none, none, none]) rfl ?_
              refine s_bv (fun x59 : Int32 => [some (.ref (gh (xG X) + a0)), some (.int p1), some (.int p2), some (.int s55.2), some (.int x59), none, none, none]) (fun x59 => ?_) rfl
              refine s_goto (pc := 180) 47 dX12_between_180 rfl ?_
              exact s_drop (hT25 (s55.1, s55.2, x59) (hs23.tr hs56)) (And.intro rfl (And.intro rfl (And.intro rfl (And.intro rfl (And.intro rfl trivial)))))
            · refine s_ifne (pc := 108) 114 dX12_between_108 rfl ?_ ?_
              · refine s_drop (L' := [some (.ref (gh (xG X) + a0)), some (.int p1), some (.int p2), some (.int s22.2.1), some (.int s22.2.2), some (.int s22.2.1), none, none]) ?_ (And.intro rfl (And.intro rfl (And.intro rfl (And.intro rfl (And.intro rfl (And.intro rfl trivial))))))
                refine s_loop1 s22.1 (fun s60 : Mem × Int32 => s60.1) (fun s60 : Mem × Int32 => [some (.ref (gh (xG X) + a0)), some (.int p1), some (.int p2), some (.int s22.2.1), some (.int s22.2.2), some (.int s60.2), none, none]) (fun x67 : Mem × Int32 => x67.1) 160 (fun x67 : Mem × Int32 => [some (.ref (gh (xG X) + a0)), some (.int p1), some (.int p2), some (.int s22.2.1), some (.int s22.2.2), some (.int x67.2), none, none]) (fun x67 hx68 => ?_) (fun T62 R64 hT63 hR65 s60 hs61 => ?_) (s22.1, s22.2.1) Le.rf
                · show S0 X _ x67.1 160 [some (.ref (gh (xG X) + a0)), some (.int p1), some (.int p2), some (.int s22.2.1), some (.int s22.2.2), some (.int x67.2), none, none] [] _
                  have o86 := hx68.ok o28
                  refine s_aload_n (pc := 160) 0 dX12_between_160 rfl rfl ?_
                  refine s_geto (pc := 161) F_12 38 rfl o86 dX12_between_161 kf_X12_86 ?_
                  refine s_rvB (fun r87 => ?_)
                  refine s_iload (pc := 164) dX12_between_164 rfl ?_
                  refine s_aload_n (pc := 166) 0 dX12_between_166 rfl rfl ?_
                  refine s_geto (pc := 167) F_12 9 rfl o86 dX12_between_167 kf_X12_33 ?_
                  refine s_rvB (fun r88 => ?_)
                  refine s_iload (pc := 170) dX12_between_170 rfl ?_
                  refine s_grd (fun o89 => ?_)
                  refine s_grd (fun i90 => ?_)
                  refine s_iald (pc := 172) o89 i90 dX12_between_172 ?_
                  refine s_grd (fun o91 => ?_)
                  refine s_grd (fun i92 => ?_)
                  refine s_iast (pc := 173) o91 i92 dX12_between_173 (fun M93 hM94 => ?_)
                  have h95 := le_wI hM94
                  have o96 := h95.ok o86
                  refine s_iinc (pc := 174) dX12_between_174 rfl (v := s22.2.1 + 1) (congrArg (fun z : Int32 => s22.2.1 + z) kc_1) (nlt rfl) rfl (L' := [some (.ref (gh (xG X) + a0)), some (.int p1), some (.int p2), some (.int (s22.2.1 + 1)), some (.int s22.2.2), some (.int x67.2), none, none]) rfl ?_
                  refine s_bv (fun x97 : Int32 => [some (.ref (gh (xG X) + a0)), some (.int p1), some (.int p2), some (.int x97), some (.int s22.2.2), some (.int x67.2), none, none]) (fun x97 => ?_) rfl
                  exact s_drop (hj57 (M93, x97) (hx68.tr h95)) (And.intro rfl (And.intro rfl (And.intro rfl (And.intro rfl (And.intro rfl trivial)))))
                · show S0 X _ s60.1 114 [some (.ref (gh (xG X) + a0)), some (.int p1), some (.int p2), some (.int s22.2.1), some (.int s22.2.2), some (.int s60.2), none, none] [] _
                  have o66 := hs61.ok o28
                  refine s_iload (pc := 114) dX12_between_114 rfl ?_
                  refine s_ifle (pc := 116) 160 dX12_between_116 rfl ?_ ?_
                  · exact s_drop (hR65 (s60.1, s60.2) hs61) (And.intro rfl (And.intro rfl (And.intro rfl (And.intro rfl (And.intro rfl (And.intro rfl trivial))))))
                  · refine s_aload_n (pc := 119) 0 dX12_between_119 rfl rfl ?_
                    refine s_geto (pc := 120) F_12 38 rfl o66 dX12_between_120 kf_X12_86 ?_
                    refine s_rvB (fun r69 => ?_)
                    refine s_iload (pc := 123) dX12_between_123 rfl ?_
                    refine s_iconst (pc := 125) 1 dX12_between_125 kc_1 ?_
                    refine s_isub (pc := 126) dX12_between_126 ?_
                    refine s_grd (fun o70 => ?_)
                    refine s_grd (fun i71 => ?_)
                    refine s_iald (pc := 127) o70 i71 dX12_between_127 ?_
                    refine s_aload_n (pc := 128) 0 dX12_between_128 rfl rfl ?_
                    refine s_geto (pc := 129) F_12 9 rfl o66 dX12_between_129 kf_X12_33 ?_
                    refine s_rvB (fun r72 => ?_)
                    refine s_iload (pc := 132) dX12_between_132 rfl ?_
                    refine s_grd (fun o73 => ?_)
                    refine s_grd (fun i74 => ?_)
                    refine s_iald (pc := 134) o73 i74 dX12_between_134 ?_
                    refine s_icle (pc := 135) 160 dX12_between_135 rfl ?_ ?_
                    · exact s_drop (hR65 (s60.1, s60.2) hs61) (And.intro rfl (And.intro rfl (And.intro rfl (And.intro rfl (And.intro rfl (And.intro rfl trivial))))))
                    · refine s_aload_n (pc := 138) 0 dX12_between_138 rfl rfl ?_
                      refine s_geto (pc := 139) F_12 38 rfl o66 dX12_between_139 kf_X12_86 ?_
                      refine s_rvB (fun r75 => ?_)
                      refine s_iload (pc := 142) dX12_between_142 rfl ?_
                      refine s_aload_n (pc := 144) 0 dX12_between_144 rfl rfl ?_
                      refine s_geto (pc := 145) F_12 38 rfl o66 dX12_between_145 kf_X12_86 ?_
                      refine s_rvB (fun r76 => ?_)
                      refine s_iload (pc := 148) dX12_between_148 rfl ?_
                      refine s_iconst (pc := 150) 1 dX12_between_150 kc_1 ?_
                      refine s_isub (pc := 151) dX12_between_151 ?_
                      refine s_grd (fun o77 => ?_)
                      refine s_grd (fun i78 => ?_)
                      refine s_iald (pc := 152) o77 i78 dX12_between_152 ?_
                      refine s_grd (fun o79 => ?_)
                      refine s_grd (fun i80 => ?_)
                      refine s_iast (pc := 153) o79 i80 dX12_between_153 (fun M81 hM82 => ?_)
                      have h83 := le_wI hM82
                      have o84 := h83.ok o66
                      refine s_iinc (pc := 154) dX12_between_154 rfl (v := s60.2 + (-1)) (congrArg (fun z : Int32 => s60.2 + z) kc_m1) (nlt rfl) rfl (L' := [some (.ref (gh (xG X) + a0)), some (.int p1), some (.int p2), some (.int s22.2.1), some (.int s22.2.2), some (.int (s60.2 + (-1))), none, none]) rfl ?_
                      refine s_bv (fun x85 : Int32 => [some (.ref (gh (xG X) + a0)), some (.int p1), some (.int p2), some (.int s22.2.1), some (.int s22.2.2), some (.int x85), none, none]) (fun x85 => ?_) rfl
                      refine s_goto (pc := 157) 114 dX12_between_157 rfl ?_
                      exact s_drop (hT63 (M81, x85) (hs61.tr h83)) (And.intro rfl (And.intro rfl (And.intro rfl (And.intro rfl (And.intro rfl (And.intro rfl trivial))))))
              · refine s_goto (pc := 111) 177 dX12_between_111 rfl ?_
                exact s_drop (hj57 (s22.1, s22.2.1) Le.rf) (And.intro rfl (And.intro rfl (And.intro rfl (And.intro rfl (And.intro rfl trivial)))))
          · show S0 X _ s22.1 65 [some (.ref (gh (xG X) + a0)), some (.int p1), some (.int p2), some (.int s22.2.1), some (.int s22.2.2), some (.int s22.2.1), some (.int s31.1), some (.int s31.2)] [] _
            refine s_iload (pc := 65) dX12_between_65 rfl ?_
            refine s_iload_n (pc := 67) 3 dX12_between_67 rfl rfl ?_
            refine s_icge (pc := 68) 106 dX12_between_68 rfl ?_ ?_
            · exact s_drop (hR36 s31.1 Le.rf) (And.intro rfl (And.intro rfl (And.intro rfl (And.intro rfl (And.intro rfl (And.intro rfl (And.intro rfl trivial)))))))
            · refine s_iload (pc := 71) dX12_between_71 rfl ?_
              refine s_join s22.1 (fun s40 : Int32 => s22.1) 98 (fun s40 : Int32 => [some (.ref (gh (xG X) + a0)), some (.int p1), some (.int p2), some (.int s22.2.1), some (.int s22.2.2), some (.int s22.2.1), none, some (.int s31.2)]) (fun s40 : Int32 => [.int s40]) (fun s40 hs41 => ?_) (fun j39 hj42 => ?_)
              · show S0 X _ s22.1 98 [some (.ref (gh (xG X) + a0)), some (.int p1), some (.int p2), some (.int s22.2.1), some (.int s22.2.2), some (.int s22.2.1), none, some (.int s31.2)] [.int s40] _
                refine s_istore (pc := 98) dX12_between_98 (nlt rfl) rfl (L' := [some (.ref (gh (xG X) + a0)), some (.int p1), some (.int p2), some (.int s22.2.1), some (.int s22.2.2), some (.int s22.2.1), some (.int s40), some (.int s31.2)]) rfl ?_
                refine s_iinc (pc := 100) dX12_between_100 rfl (v := s31.2 + 1) (congrArg (fun z : Int32 => s31.2 + z) kc_1) (nlt rfl) rfl (L' := [some (.ref (gh (xG X) + a0)), some (.int p1), some (.int p2), some (.int s22.2.1), some (.int s22.2.2), some (.int s22.2.1), some (.int s40), some (.int (s31.2 + 1))]) rfl ?_
                refine s_bv (fun x43 : Int32 => [some (.ref (gh (xG X) + a0)), some (.int p1), some (.int p2), some (.int s22.2.1), some (.int s22.2.2), some (.int s22.2.1), some (.int s40), some (.int x43)]) (fun x43 => ?_) rfl
                refine s_goto (pc := 103) 65 dX12_between_103 rfl ?_
                exact s_drop (hT34 (s40, x43) Le.rf) (And.intro rfl (And.intro rfl (And.intro rfl (And.intro rfl (And.intro rfl (And.intro rfl (And.intro rfl (And.intro rfl trivial))))))))
              · refine s_join s22.1 (fun s45 : Unit => s22.1) 97 (fun s45 : Unit => [some (.ref (gh (xG X) + a0)), some (.int p1), some (.int p2), some (.int s22.2.1), some (.int s22.2.2), some (.int s22.2.1), none, some (.int s31.2)]) (fun s45 : Unit => []) (fun s45 hs46 => ?_) (fun j44 hj47 => ?_)
                · show S0 X _ s22.1 97 [some (.ref (gh (xG X) + a0)), some (.int p1), some (.int p2), some (.int s22.2.1), some (.int s22.2.2), some (.int s22.2.1), none, some (.int s31.2)] [] _
                  refine s_iconst (pc := 97) 0 dX12_between_97 kc_0 ?_
                  exact s_drop (hj42 0 Le.rf) (And.intro rfl (And.intro rfl (And.intro rfl (And.intro rfl (And.intro rfl (And.intro rfl (And.intro rfl trivial)))))))
                · refine s_ifeq (pc := 73) 97 dX12_between_73 rfl ?_ ?_
                  · exact s_drop (hj47 () Le.rf) (And.intro rfl (And.intro rfl (And.intro rfl (And.intro rfl (And.intro rfl (And.intro rfl (And.intro rfl trivial)))))))
                  · refine s_aload_n (pc := 76) 0 dX12_between_76 rfl rfl ?_
                    refine s_geto (pc := 77) F_12 38 rfl o28 dX12_between_77 kf_X12_86 ?_
                    refine s_rvB (fun r48 => ?_)
                    refine s_iload (pc := 80) dX12_between_80 rfl ?_
                    refine s_grd (fun o49 => ?_)
                    refine s_grd (fun i50 => ?_)
                    refine s_iald (pc := 82) o49 i50 dX12_between_82 ?_
                    refine s_aload_n (pc := 83) 0 dX12_between_83 rfl rfl ?_
                    refine s_geto (pc := 84) F_12 9 rfl o28 dX12_between_84 kf_X12_33 ?_
                    refine s_rvB (fun r51 => ?_)
                    refine s_iload (pc := 87) dX12_between_87 rfl ?_
                    refine s_grd (fun o52 => ?_)
                    refine s_grd (fun i53 => ?_)
                    refine s_iald (pc := 89) o52 i53 dX12_between_89 ?_
                    refine s_iceq (pc := 90) 97 dX12_between_90 rfl ?_ ?_
                    · exact s_drop (hj47 () Le.rf) (And.intro rfl (And.intro rfl (And.intro rfl (And.intro rfl (And.intro rfl (And.intro rfl (And.intro rfl trivial)))))))
                    · refine s_iconst (pc := 93) 1 dX12_between_93 kc_1 ?_
                      refine s_goto (pc := 94) 98 dX12_between_94 rfl ?_
                      exact s_drop (hj42 1 Le.rf) (And.intro rfl (And.intro rfl (And.intro rfl (And.intro rfl (And.intro rfl (And.intro rfl (And.intro rfl trivial)))))))
    · refine s_iconst (pc := 18) (-1) dX12_between_18 kc_m1 ?_
      exact s_iret rfl dX12_between_19
set_option maxRecDepth 100000 in
set_option maxHeartbeats 8000000 in
noncomputable def f_X12_first (M : Mem) (a0 : Nat) (p1 : Int32) (p2 : Int32) : Option (Mem × Int32) :=
  grd (okO M 12 a0) (Option.bind (f_X12_areHouses M a0 p1) (fun q2 => if q2 = 0 then (some (M, (-1))) else (Option.bind (f_X12_lies p2 0 2) (fun q5 => if q5 = 0 then (some (M, (-1))) else (Option.bind (f_X12_laysNext M a0) (fun q8 => Option.bind (loopO (σ := Mem × Int32) (ρ := Mem) (fun s13 => if 9331 ≤ s13.2 then (some (.inr s13.1)) else (Option.bind (mR s13.1 a0 39) (fun r22 => grd (okO s13.1 14 r22) (grd (vp_in s13.2 (mL s13.1 r22)) (bv (wI s13.1 r22 s13.2.toNatClampNeg 0) (fun M25 => bv (s13.2 + 1 : Int32) (fun x29 => some (.inl (M25, x29))))))))) (q8, 0)) (fun (x20 : Mem) => Option.bind (loopO (σ := Mem × Int32) (ρ := Mem) (fun s31 => Option.bind (mR s31.1 a0 3) (fun r40 => grd (okO s31.1 14 r40) (grd (vp_in 56 (mL s31.1 r40)) (if (mI s31.1 r40 (56 : Int32).toNatClampNeg) ≤ s31.2 then (some (.inr s31.1)) else (Option.bind (f_X12_isOne p1 s31.2) (fun q43 => bv (fun (s47 : Mem) => bv (s31.2 + 1 : Int32) (fun x51 => some (.inl (s47, x51)))) (fun j46 => if q43 = 0 then (j46 s31.1) else (Option.bind (f_X12_fact s31.1 a0 s31.2 2) (fun q52 => Option.bind (f_X12_placeOf q52) (fun q55 => Option.bind (f_X12_measuresTo s31.1 a0 q55) (fun q58 => Option.bind (loopO (σ := Mem × Int32) (ρ := Mem) (fun s63 => if 9331 ≤ s63.2 then (some (.inr s63.1)) else (Option.bind (mR s63.1 a0 39) (fun r72 => Option.bind (mR s63.1 a0 39) (fun r73 => grd (okO s63.1 14 r73) (grd (vp_in s63.2 (mL s63.1 r73)) (bv (fun (s77 : Int32) => grd (okO s63.1 14 r72) (grd (vp_in s63.2 (mL s63.1 r72)) (bv (wI s63.1 r72 s63.2.toNatClampNeg s77) (fun M82 => bv (s63.2 + 1 : Int32) (fun x86 => some (.inl (M82, x86))))))) (fun j76 => bv (fun (s88 : Unit) => j76 1000000) (fun j87 => if 1000000 ≤ (mI s63.1 r73 s63.2.toNatClampNeg) then (j87 ()) else (Option.bind (mR s63.1 a0 35) (fun r91 => grd (okO s63.1 14 r91) (grd (vp_in s63.2 (mL s63.1 r91)) (if (mI s63.1 r91 s63.2.toNatClampNeg) < 1000000 then (Option.bind (mR s63.1 a0 39) (fun r94 => grd (okO s63.1 14 r94) (grd (vp_in s63.2 (mL s63.1 r94)) (Option.bind (mR s63.1 a0 35) (fun r97 => grd (okO s63.1 14 r97) (grd (vp_in s63.2 (mL s63.1 r97)) (j76 ((mI s63.1 r94 s63.2.toNatClampNeg) + (mI s63.1 r97 s63.2.toNatClampNeg))))))))) else (j87 ()))))))))))))) (q58, 0)) (fun (x70 : Mem) => j46 x70)))))))))))) (x20, 0)) (fun (x38 : Mem) => Option.bind (loopO (σ := Int32 × Int32 × Int32) (ρ := Int32 × Int32) (fun s102 => if 9331 ≤ s102.2.2 then (some (.inr (s102.1, s102.2.1))) else (Option.bind (mR x38 a0 39) (fun r110 => grd (okO x38 14 r110) (grd (vp_in s102.2.2 (mL x38 r110)) (bv (fun (s114 : Int32 × Int32) => bv (s102.2.2 + 1 : Int32) (fun x117 => some (.inl (s114.1, s114.2, x117)))) (fun j113 => if 1000000 ≤ (mI x38 r110 s102.2.2.toNatClampNeg) then (j113 (s102.1, s102.2.1)) else (bv (fun (s119 : Unit) => bv (fun (s123 : Int32 × Int32) => bv (s123.2 + 1 : Int32) (fun x126 => j113 (s123.1, x126))) (fun j122 => bv (fun (s128 : Unit) => j122 (s102.2.2, 0)) (fun j127 => if s102.1 = (-1) then (j127 ()) else (Option.bind (mR x38 a0 39) (fun r131 => grd (okO x38 14 r131) (grd (vp_in s102.2.2 (mL x38 r131)) (Option.bind (mR x38 a0 39) (fun r134 => grd (okO x38 14 r134) (grd (vp_in s102.1 (mL x38 r134)) (if (mI x38 r134 s102.1.toNatClampNeg) ≤ (mI x38 r131 s102.2.2.toNatClampNeg) then (j122 (s102.1, s102.2.1)) else (j127 ()))))))))))) (fun j118 => if s102.1 = (-1) then (j118 ()) else (Option.bind (mR x38 a0 39) (fun r137 => grd (okO x38 14 r137) (grd (vp_in s102.2.2 (mL x38 r137)) (Option.bind (mR x38 a0 39) (fun r140 => grd (okO x38 14 r140) (grd (vp_in s102.1 (mL x38 r140)) (if (mI x38 r137 s102.2.2.toNatClampNeg) ≤ (mI x38 r140 s102.1.toNatClampNeg) then (j118 ()) else (j113 (s102.1, s102.2.1))))))))))))))))) ((-1), 0, 0)) (fun (x108 : Int32 × Int32) => if x108.1 = (-1) then (some (x38, (-1))) else (if p2 = 0 then (Option.bind (mR x38 a0 39) (fun r146 => grd (okO x38 14 r146) (grd (vp_in x108.1 (mL x38 r146)) (some (x38, mI x38 r146 x108.1.toNatClampNeg))))) else (if p2 = 1 then (some (x38, x108.2)) else (Option.bind (f_X12_dishAt x108.1) (fun q143 => some (x38, q143))))))))))))))
abbrev Y_X12_first : Sta := (RX12, "first", cX12_first, 6, (some .int), 209)
set_option maxRecDepth 100000 in
set_option maxHeartbeats 8000000 in
theorem t_X12_first {l : Launch} {G : Gh} {M : Mem} {a0 : Nat} {p1 : Int32} {p2 : Int32} {q : Mem × Int32} (h : f_X12_first M a0 p1 p2 = some q) : Ctr l G yX12_first Y_X12_first M [.ref (gh G + a0), .int p1, .int p2] q.1 (some (.int q.2)) := by
  refine Ctr.of (Y := Y_X12_first) (L := [some (.ref (gh G + a0)), some (.int p1), some (.int p2), none, none, none]) (t := Option.bind (f_X12_first M a0 p1 p2) (fun q => some (q.1, some (.int q.2)))) (by decide) rfl rfl (nle rfl) (Lof_in 3 _ rfl) (fun X hG hl => ?_) (by rw [h]; rfl)
  subst hG
  subst hl
  unfold f_X12_first
  refine s_aload_n (pc := 0) 0 dX12_first_0 rfl rfl ?_
  refine s_iload_n (pc := 1) 1 dX12_first_1 rfl rfl ?_
  refine s_grd (fun o1 => ?_)
  refine s_bind (fun q2 hq3 => ?_)
  have hC4 := t_X12_areHouses (l := xl X) (G := xG X) hq3
  refine s_callV (pc := 2) (As := [.int p1]) (st := []) (nlt rfl) (q := (RX12, TX12, 59)) rfl rfl o1 cl_X12_areHouses wi_X12_areHouses wl_X12_areHouses km_X12_387 rfl rfl (nle rfl) (nle rfl) (nle rfl) dX12_first_2 hC4 ?_
  show S0 X _ M 5 [some (.ref (gh (xG X) + a0)), some (.int p1), some (.int p2), none, none, none] [.int q2] _
  refine s_ifeq (pc := 5) 17 dX12_first_5 rfl ?_ ?_
  · refine s_iconst (pc := 17) (-1) dX12_first_17 kc_m1 ?_
    exact s_iret rfl dX12_first_18
  · refine s_iload_n (pc := 8) 2 dX12_first_8 rfl rfl ?_
    refine s_iconst (pc := 9) 0 dX12_first_9 kc_0 ?_
    refine s_iconst (pc := 10) 2 dX12_first_10 kc_2 ?_
    refine s_bind (fun q5 hq6 => ?_)
    have hC7 := t_X12_lies (l := xl X) (G := xG X) (M := M) hq6
    refine s_callS (pc := 11) (As := [.int p2, .int 0, .int 2]) (st := []) cl_X12_lies wt_X12_lies km_X12_123 rfl rfl (nle rfl) (nle rfl) (nle rfl) dX12_first_11 hC7 ?_
    show S0 X _ M 14 [some (.ref (gh (xG X) + a0)), some (.int p1), some (.int p2), none, none, none] [.int q5] _
    refine s_ifne (pc := 14) 19 dX12_first_14 rfl ?_ ?_
    · refine s_aload_n (pc := 19) 0 dX12_first_19 rfl rfl ?_
      refine s_bind (fun q8 hq9 => ?_)
      have hC10 := t_X12_laysNext (l := xl X) (G := xG X) hq9
      refine s_callV (pc := 20) (As := []) (st := []) (nlt rfl) (q := (RX12, TX12, 59)) rfl rfl o1 cl_X12_laysNext wi_X12_laysNext wl_X12_laysNext km_X12_365 rfl rfl (nle rfl) (nle rfl) (nle rfl) dX12_first_20 hC10 ?_
      have h11 := hC10.1 X
      have o12 := h11.ok o1
      show S0 X _ q8 23 [some (.ref (gh (xG X) + a0)), some (.int p1), some (.int p2), none, none, none] [] _
      refine s_iconst (pc := 23) 0 dX12_first_23 kc_0 ?_
      refine s_istore_n (pc := 24) 3 dX12_first_24 rfl (nlt rfl) rfl (L' := [some (.ref (gh (xG X) + a0)), some (.int p1), some (.int p2), some (.int 0), none, none]) rfl ?_
      refine s_drop (L' := [some (.ref (gh (xG X) + a0)), some (.int p1), some (.int p2), some (.int 0), none, none]) ?_ (And.intro rfl (And.intro rfl (And.intro rfl (And.intro rfl trivial))))
      refine s_loop1 q8 (fun s13 : Mem × Int32 => s13.1) (fun s13 : Mem × Int32 => [some (.ref (gh (xG X) + a0)), some (.int p1), some (.int p2), some (.int s13.2), none, none]) (fun x20 : Mem => x20) 45 (fun x20 : Mem => [some (.ref (gh (xG X) + a0)), some (.int p1), some (.int p2), none, none, none]) (fun x20 hx21 => ?_) (fun T15 R17 hT16 hR18 s13 hs14 => ?_) (q8, 0) Le.rf
      · show S0 X _ x20 45 [some (.ref (gh (xG X) + a0)), some (.int p1), some (.int p2), none, none, none] [] _
        have o30 := hx21.ok o12
        refine s_iconst (pc := 45) 0 dX12_first_45 kc_0 ?_
        refine s_istore_n (pc := 46) 3 dX12_first_46 rfl (nlt rfl) rfl (L' := [some (.ref (gh (xG X) + a0)), some (.int p1), some (.int p2), some (.int 0), none, none]) rfl ?_
        refine s_drop (L' := [some (.ref (gh (xG X) + a0)), some (.int p1), some (.int p2), some (.int 0), none, none]) ?_ (And.intro rfl (And.intro rfl (And.intro rfl (And.intro rfl trivial))))
        refine s_loop1 x20 (fun s31 : Mem × Int32 => s31.1) (fun s31 : Mem × Int32 => [some (.ref (gh (xG X) + a0)), some (.int p1), some (.int p2), some (.int s31.2), none, none]) (fun x38 : Mem => x38) 156 (fun x38 : Mem => [some (.ref (gh (xG X) + a0)), none, some (.int p2), none, none, none]) (fun x38 hx39 => ?_) (fun T33 R35 hT34 hR36 s31 hs32 => ?_) (x20, 0) Le.rf
        · show S0 X _ x38 156 [some (.ref (gh (xG X) + a0)), none, some (.int p2), none, none, none] [] _
          have o101 := hx39.ok o30
          refine s_iconst (pc := 156) (-1) dX12_first_156 kc_m1 ?_
          refine s_istore_n (pc := 157) 3 dX12_first_157 rfl (nlt rfl) rfl (L' := [some (.ref (gh (xG X) + a0)), none, some (.int p2), some (.int (-1)), none, none]) rfl ?_
          refine s_iconst (pc := 158) 0 dX12_first_158 kc_0 ?_
          refine s_istore (pc := 159) dX12_first_159 (nlt rfl) rfl (L' := [some (.ref (gh (xG X) + a0)), none, some (.int p2), some (.int (-1)), some (.int 0), none]) rfl ?_
          refine s_iconst (pc := 161) 0 dX12_first_161 kc_0 ?_
          refine s_istore (pc := 162) dX12_first_162 (nlt rfl) rfl (L' := [some (.ref (gh (xG X) + a0)), none, some (.int p2), some (.int (-1)), some (.int 0), some (.int 0)]) rfl ?_
          refine s_drop (L' := [some (.ref (gh (xG X) + a0)), none, some (.int p2), some (.int (-1)), some (.int 0), some (.int 0)]) ?_ (And.intro rfl (And.intro rfl (And.intro rfl (And.intro rfl (And.intro rfl trivial)))))
          refine s_loop1 x38 (fun s102 : Int32 × Int32 × Int32 => x38) (fun s102 : Int32 × Int32 × Int32 => [some (.ref (gh (xG X) + a0)), none, some (.int p2), some (.int s102.1), some (.int s102.2.1), some (.int s102.2.2)]) (fun x108 : Int32 × Int32 => x38) 244 (fun x108 : Int32 × Int32 => [some (.ref (gh (xG X) + a0)), none, some (.int p2), some (.int x108.1), some (.int x108.2), none]) (fun x108 hx109 => ?_) (fun T104 R106 hT105 hR107 s102 hs103 => ?_) ((-1), 0, 0) Le.rf
          · show S0 X _ x38 244 [some (.ref (gh (xG X) + a0)), none, some (.int p2), some (.int x108.1), some (.int x108.2), none] [] _
            refine s_iload_n (pc := 244) 3 dX12_first_244 rfl rfl ?_
            refine s_iconst (pc := 245) (-1) dX12_first_245 kc_m1 ?_
            refine s_icne (pc := 246) 253 dX12_first_246 rfl ?_ ?_
            · refine s_iload_n (pc := 253) 2 dX12_first_253 rfl rfl ?_
              refine s_ifne (pc := 254) 266 dX12_first_254 rfl ?_ ?_
              · refine s_iload_n (pc := 266) 2 dX12_first_266 rfl rfl ?_
                refine s_iconst (pc := 267) 1 dX12_first_267 kc_1 ?_
                refine s_icne (pc := 268) 276 dX12_first_268 rfl ?_ ?_
                · refine s_iload_n (pc := 276) 3 dX12_first_276 rfl rfl ?_
                  refine s_bind (fun q143 hq144 => ?_)
                  have hC145 := t_X12_dishAt (l := xl X) (G := xG X) (M := x38) hq144
                  refine s_callS (pc := 277) (As := [.int x108.1]) (st := []) cl_X12_dishAt wt_X12_dishAt km_X12_359 rfl rfl (nle rfl) (nle rfl) (nle rfl) dX12_first_277 hC145 ?_
                  show S0 X _ x38 280 [some (.ref (gh (xG X) + a0)), none, some (.int p2), some (.int x108.1), some (.int x108.2), none] [.int q143] _
                  exact s_iret rfl dX12_first_280
                · refine s_iload (pc := 271) dX12_first_271 rfl ?_
                  refine s_goto (pc := 273) 280 dX12_first_273 rfl ?_
                  exact s_iret rfl dX12_first_280
              · refine s_aload_n (pc := 257) 0 dX12_first_257 rfl rfl ?_
                refine s_geto (pc := 258) F_12 39 rfl o101 dX12_first_258 kf_X12_89 ?_
                refine s_rvB (fun r146 => ?_)
                refine s_iload_n (pc := 261) 3 dX12_first_261 rfl rfl ?_
                refine s_grd (fun o147 => ?_)
                refine s_grd (fun i148 => ?_)
                refine s_iald (pc := 262) o147 i148 dX12_first_262 ?_
                refine s_goto (pc := 263) 280 dX12_first_263 rfl ?_
                exact s_iret rfl dX12_first_280
            · refine s_iconst (pc := 249) (-1) dX12_first_249 kc_m1 ?_
              refine s_goto (pc := 250) 280 dX12_first_250 rfl ?_
              exact s_iret rfl dX12_first_280
          · show S0 X _ x38 164 [some (.ref (gh (xG X) + a0)), none, some (.int p2), some (.int s102.1), some (.int s102.2.1), some (.int s102.2.2)] [] _
            refine s_iload (pc := 164) dX12_first_164 rfl ?_
            refine s_sipush (pc := 166) 9331 dX12_first_166 ks_9331 ?_
            refine s_icge (pc := 169) 244 dX12_first_169 rfl ?_ ?_
            · exact s_drop (hR107 (s102.1, s102.2.1) Le.rf) (And.intro rfl (And.intro rfl (And.intro rfl (And.intro rfl trivial))))
            · refine s_aload_n (pc := 172) 0 dX12_first_172 rfl rfl ?_
              refine s_geto (pc := 173) F_12 39 rfl o101 dX12_first_173 kf_X12_89 ?_
              refine s_rvB (fun r110 => ?_)
              refine s_iload (pc := 176) dX12_first_176 rfl ?_
              refine s_grd (fun o111 => ?_)
              refine s_grd (fun i112 => ?_)
              refine s_iald (pc := 178) o111 i112 dX12_first_178 ?_
              refine s_ldc (pc := 179) dX12_first_179 ki_X12_229 ?_
              refine s_join x38 (fun s114 : Int32 × Int32 => x38) 238 (fun s114 : Int32 × Int32 => [some (.ref (gh (xG X) + a0)), none, some (.int p2), some (.int s114.1), some (.int s114.2), some (.int s102.2.2)]) (fun s114 : Int32 × Int32 => []) (fun s114 hs115 => ?_) (fun j113 hj116 => ?_)
              · show S0 X _ x38 238 [some (.ref (gh (xG X) + a0)), none, some (.int p2), some (.int s114.1), some (.int s114.2), some (.int s102.2.2)] [] _
                refine s_iinc (pc := 238) dX12_first_238 rfl (v := s102.2.2 + 1) (congrArg (fun z : Int32 => s102.2.2 + z) kc_1) (nlt rfl) rfl (L' := [some (.ref (gh (xG X) + a0)), none, some (.int p2), some (.int s114.1), some (.int s114.2), some (.int (s102.2.2 + 1))]) rfl ?_
                refine s_bv (fun x117 : Int32 => [some (.ref (gh (xG X) + a0)), none, some (.int p2), some (.int s114.1), some (.int s114.2), some (.int x117)]) (fun x117 => ?_) rfl
                refine s_goto (pc := 241) 164 dX12_first_241 rfl ?_
                exact s_drop (hT105 (s114.1, s114.2, x117) Le.rf) (And.intro rfl (And.intro rfl (And.intro rfl (And.intro rfl (And.intro rfl trivial)))))
              · refine s_icge (pc := 181) 238 dX12_first_181 rfl ?_ ?_
                · exact s_drop (hj116 (s102.1, s102.2.1) Le.rf) (And.intro rfl (And.intro rfl (And.intro rfl (And.intro rfl (And.intro rfl trivial)))))
                · refine s_iload_n (pc := 184) 3 dX12_first_184 rfl rfl ?_
                  refine s_iconst (pc := 185) (-1) dX12_first_185 kc_m1 ?_
                  refine s_join x38 (fun s119 : Unit => x38) 208 (fun s119 : Unit => [some (.ref (gh (xG X) + a0)), none, some (.int p2), some (.int s102.1), some (.int s102.2.1), some (.int s102.2.2)]) (fun s119 : Unit => []) (fun s119 hs120 => ?_) (fun j118 hj121 => ?_)
                  · show S0 X _ x38 208 [some (.ref (gh (xG X) + a0)), none, some (.int p2), some (.int s102.1), some (.int s102.2.1), some (.int s102.2.2)] [] _
                    refine s_iload_n (pc := 208) 3 dX12_first_208 rfl rfl ?_
                    refine s_iconst (pc := 209) (-1) dX12_first_209 kc_m1 ?_
                    refine s_join x38 (fun s123 : Int32 × Int32 => x38) 235 (fun s123 : Int32 × Int32 => [some (.ref (gh (xG X) + a0)), none, some (.int p2), some (.int s123.1), some (.int s123.2), some (.int s102.2.2)]) (fun s123 : Int32 × Int32 => []) (fun s123 hs124 => ?_) (fun j122 hj125 => ?_)
                    · show S0 X _ x38 235 [some (.ref (gh (xG X) + a0)), none, some (.int p2), some (.int s123.1), some (.int s123.2), some (.int s102.2.2)] [] _
                      refine s_iinc (pc := 235) dX12_first_235 rfl (v := s123.2 + 1) (congrArg (fun z : Int32 => s123.2 + z) kc_1) (nlt rfl) rfl (L' := [some (.ref (gh (xG X) + a0)), none, some (.int p2), some (.int s123.1), some (.int (s123.2 + 1)), some (.int s102.2.2)]) rfl ?_
                      refine s_bv (fun x126 : Int32 => [some (.ref (gh (xG X) + a0)), none, some (.int p2), some (.int s123.1), some (.int x126), some (.int s102.2.2)]) (fun x126 => ?_) rfl
                      exact s_drop (hj116 (s123.1, x126) Le.rf) (And.intro rfl (And.intro rfl (And.intro rfl (And.intro rfl (And.intro rfl trivial)))))
                    · refine s_join x38 (fun s128 : Unit => x38) 229 (fun s128 : Unit => [some (.ref (gh (xG X) + a0)), none, some (.int p2), none, none, some (.int s102.2.2)]) (fun s128 : Unit => []) (fun s128 hs129 => ?_) (fun j127 hj130 => ?_)
                      · show S0 X _ x38 229 [some (.ref (gh (xG X) + a0)), none, some (.int p2), none, none, some (.int s102.2.2)] [] _
                        refine s_iload (pc := 229) dX12_first_229 rfl ?_
                        refine s_istore_n (pc := 231) 3 dX12_first_231 rfl (nlt rfl) rfl (L' := [some (.ref (gh (xG X) + a0)), none, some (.int p2), some (.int s102.2.2), none, some (.int s102.2.2)]) rfl ?_
                        refine s_iconst (pc := 232) 0 dX12_first_232 kc_0 ?_
                        refine s_istore (pc := 233) dX12_first_233 (nlt rfl) rfl (L' := [some (.ref (gh (xG X) + a0)), none, some (.int p2), some (.int s102.2.2), some (.int 0), some (.int s102.2.2)]) rfl ?_
                        exact s_drop (hj125 (s102.2.2, 0) Le.rf) (And.intro rfl (And.intro rfl (And.intro rfl (And.intro rfl (And.intro rfl trivial)))))
                      · refine s_iceq (pc := 210) 229 dX12_first_210 rfl ?_ ?_
                        · exact s_drop (hj130 () Le.rf) (And.intro rfl (And.intro rfl (And.intro rfl trivial)))
                        · refine s_aload_n (pc := 213) 0 dX12_first_213 rfl rfl ?_
                          refine s_geto (pc := 214) F_12 39 rfl o101 dX12_first_214 kf_X12_89 ?_
                          refine s_rvB (fun r131 => ?_)
                          refine s_iload (pc := 217) dX12_first_217 rfl ?_
                          refine s_grd (fun o132 => ?_)
                          refine s_grd (fun i133 => ?_)
                          refine s_iald (pc := 219) o132 i133 dX12_first_219 ?_
                          refine s_aload_n (pc := 220) 0 dX12_first_220 rfl rfl ?_
                          refine s_geto (pc := 221) F_12 39 rfl o101 dX12_first_221 kf_X12_89 ?_
                          refine s_rvB (fun r134 => ?_)
                          refine s_iload_n (pc := 224) 3 dX12_first_224 rfl rfl ?_
                          refine s_grd (fun o135 => ?_)
                          refine s_grd (fun i136 => ?_)
                          refine s_iald (pc := 225) o135 i136 dX12_first_225 ?_
                          refine s_icge (pc := 226) 235 dX12_first_226 rfl ?_ ?_
                          · exact s_drop (hj125 (s102.1, s102.2.1) Le.rf) (And.intro rfl (And.intro rfl (And.intro rfl (And.intro rfl (And.intro rfl trivial)))))
                          · exact s_drop (hj130 () Le.rf) (And.intro rfl (And.intro rfl (And.intro rfl trivial)))
                  · refine s_iceq (pc := 186) 208 dX12_first_186 rfl ?_ ?_
                    · exact s_drop (hj121 () Le.rf) (And.intro rfl (And.intro rfl (And.intro rfl (And.intro rfl (And.intro rfl trivial)))))
                    · refine s_aload_n (pc := 189) 0 dX12_first_189 rfl rfl ?_
                      refine s_geto (pc := 190) F_12 39 rfl o101 dX12_first_190 kf_X12_89 ?_
                      refine s_rvB (fun r137 => ?_)
                      refine s_iload (pc := 193) dX12_first_193 rfl ?_
                      refine s_grd (fun o138 => ?_)
                      refine s_grd (fun i139 => ?_)
                      refine s_iald (pc := 195) o138 i139 dX12_first_195 ?_
                      refine s_aload_n (pc := 196) 0 dX12_first_196 rfl rfl ?_
                      refine s_geto (pc := 197) F_12 39 rfl o101 dX12_first_197 kf_X12_89 ?_
                      refine s_rvB (fun r140 => ?_)
                      refine s_iload_n (pc := 200) 3 dX12_first_200 rfl rfl ?_
                      refine s_grd (fun o141 => ?_)
                      refine s_grd (fun i142 => ?_)
                      refine s_iald (pc := 201) o141 i142 dX12_first_201 ?_
                      refine s_icle (pc := 202) 208 dX12_first_202 rfl ?_ ?_
                      · exact s_drop (hj121 () Le.rf) (And.intro rfl (And.intro rfl (And.intro rfl (And.intro rfl (And.intro rfl trivial)))))
                      · refine s_goto (pc := 205) 238 dX12_first_205 rfl ?_
                        exact s_drop (hj116 (s102.1, s102.2.1) Le.rf) (And.intro rfl (And.intro rfl (And.intro rfl (And.intro rfl (And.intro rfl trivial)))))
        · show S0 X _ s31.1 47 [some (.ref (gh (xG X) + a0)), some (.int p1), some (.int p2), some (.int s31.2), none, none] [] _
          have o37 := hs32.ok o30
          refine s_iload_n (pc := 47) 3 dX12_first_47 rfl rfl ?_
          refine s_aload_n (pc := 48) 0 dX12_first_48 rfl rfl ?_
          refine s_geto (pc := 49) F_12 3 rfl o37 dX12_first_49 kf_X12_20 ?_
          refine s_rvB (fun r40 => ?_)
          refine s_bipush (pc := 52) 56 dX12_first_52 kb_56 ?_
          refine s_grd (fun o41 => ?_)
          refine s_grd (fun i42 => ?_)
          refine s_iald (pc := 54) o41 i42 dX12_first_54 ?_
          refine s_icge (pc := 55) 156 dX12_first_55 rfl ?_ ?_
          · exact s_drop (hR36 s31.1 hs32) (And.intro rfl (And.intro rfl trivial))
          · refine s_iload_n (pc := 58) 1 dX12_first_58 rfl rfl ?_
            refine s_iload_n (pc := 59) 3 dX12_first_59 rfl rfl ?_
            refine s_bind (fun q43 hq44 => ?_)
            have hC45 := t_X12_isOne (l := xl X) (G := xG X) (M := s31.1) hq44
            refine s_callS (pc := 60) (As := [.int p1, .int s31.2]) (st := []) cl_X12_isOne wt_X12_isOne km_X12_390 rfl rfl (nle rfl) (nle rfl) (nle rfl) dX12_first_60 hC45 ?_
            show S0 X _ s31.1 63 [some (.ref (gh (xG X) + a0)), some (.int p1), some (.int p2), some (.int s31.2), none, none] [.int q43] _
            refine s_join s31.1 (fun s47 : Mem => s47) 150 (fun s47 : Mem => [some (.ref (gh (xG X) + a0)), some (.int p1), some (.int p2), some (.int s31.2), none, none]) (fun s47 : Mem => []) (fun s47 hs48 => ?_) (fun j46 hj49 => ?_)
            · show S0 X _ s47 150 [some (.ref (gh (xG X) + a0)), some (.int p1), some (.int p2), some (.int s31.2), none, none] [] _
              have o50 := hs48.ok o37
              refine s_iinc (pc := 150) dX12_first_150 rfl (v := s31.2 + 1) (congrArg (fun z : Int32 => s31.2 + z) kc_1) (nlt rfl) rfl (L' := [some (.ref (gh (xG X) + a0)), some (.int p1), some (.int p2), some (.int (s31.2 + 1)), none, none]) rfl ?_
              refine s_bv (fun x51 : Int32 => [some (.ref (gh (xG X) + a0)), some (.int p1), some (.int p2), some (.int x51), none, none]) (fun x51 => ?_) rfl
              refine s_goto (pc := 153) 47 dX12_first_153 rfl ?_
              exact s_drop (hT34 (s47, x51) (hs32.tr hs48)) (And.intro rfl (And.intro rfl (And.intro rfl (And.intro rfl trivial))))
            · refine s_ifne (pc := 63) 69 dX12_first_63 rfl ?_ ?_
              · refine s_aload_n (pc := 69) 0 dX12_first_69 rfl rfl ?_
                refine s_aload_n (pc := 70) 0 dX12_first_70 rfl rfl ?_
                refine s_iload_n (pc := 71) 3 dX12_first_71 rfl rfl ?_
                refine s_iconst (pc := 72) 2 dX12_first_72 kc_2 ?_
                refine s_bind (fun q52 hq53 => ?_)
                have hC54 := t_X12_fact (l := xl X) (G := xG X) hq53
                refine s_callV (pc := 73) (As := [.int s31.2, .int 2]) (st := [.ref (gh (xG X) + a0)]) (nlt rfl) (q := (RX12, TX12, 59)) rfl rfl o37 cl_X12_fact wi_X12_fact wl_X12_fact km_X12_194 rfl rfl (nle rfl) (nle rfl) (nle rfl) dX12_first_73 hC54 ?_
                show S0 X _ s31.1 76 [some (.ref (gh (xG X) + a0)), some (.int p1), some (.int p2), some (.int s31.2), none, none] [.int q52, .ref (gh (xG X) + a0)] _
                refine s_bind (fun q55 hq56 => ?_)
                have hC57 := t_X12_placeOf (l := xl X) (G := xG X) (M := s31.1) hq56
                refine s_callS (pc := 76) (As := [.int q52]) (st := [.ref (gh (xG X) + a0)]) cl_X12_placeOf wt_X12_placeOf km_X12_362 rfl rfl (nle rfl) (nle rfl) (nle rfl) dX12_first_76 hC57 ?_
                show S0 X _ s31.1 79 [some (.ref (gh (xG X) + a0)), some (.int p1), some (.int p2), some (.int s31.2), none, none] [.int q55, .ref (gh (xG X) + a0)] _
                refine s_bind (fun q58 hq59 => ?_)
                have hC60 := t_X12_measuresTo (l := xl X) (G := xG X) hq59
                refine s_callV (pc := 79) (As := [.int q55]) (st := []) (nlt rfl) (q := (RX12, TX12, 59)) rfl rfl o37 cl_X12_measuresTo wi_X12_measuresTo wl_X12_measuresTo km_X12_393 rfl rfl (nle rfl) (nle rfl) (nle rfl) dX12_first_79 hC60 ?_
                have h61 := hC60.1 X
                have o62 := h61.ok o37
                show S0 X _ q58 82 [some (.ref (gh (xG X) + a0)), some (.int p1), some (.int p2), some (.int s31.2), none, none] [] _
                refine s_iconst (pc := 82) 0 dX12_first_82 kc_0 ?_
                refine s_istore (pc := 83) dX12_first_83 (nlt rfl) rfl (L' := [some (.ref (gh (xG X) + a0)), some (.int p1), some (.int p2), some (.int s31.2), some (.int 0), none]) rfl ?_
                refine s_drop (L' := [some (.ref (gh (xG X) + a0)), some (.int p1), some (.int p2), some (.int s31.2), some (.int 0), none]) ?_ (And.intro rfl (And.intro rfl (And.intro rfl (And.intro rfl (And.intro rfl trivial)))))
                refine s_loop1 q58 (fun s63 : Mem × Int32 => s63.1) (fun s63 : Mem × Int32 => [some (.ref (gh (xG X) + a0)), some (.int p1), some (.int p2), some (.int s31.2), some (.int s63.2), none]) (fun x70 : Mem => x70) 150 (fun x70 : Mem => [some (.ref (gh (xG X) + a0)), some (.int p1), some (.int p2), some (.int s31.2), none, none]) (fun x70 hx71 => ?_) (fun T65 R67 hT66 hR68 s63 hs64 => ?_) (q58, 0) Le.rf
                · show S0 X _ x70 150 [some (.ref (gh (xG X) + a0)), some (.int p1), some (.int p2), some (.int s31.2), none, none] [] _
                  have o100 := hx71.ok o62
                  exact s_drop (hj49 x70 (h61.tr hx71)) (And.intro rfl (And.intro rfl (And.intro rfl (And.intro rfl trivial))))
                · show S0 X _ s63.1 85 [some (.ref (gh (xG X) + a0)), some (.int p1), some (.int p2), some (.int s31.2), some (.int s63.2), none] [] _
                  have o69 := hs64.ok o62
                  refine s_iload (pc := 85) dX12_first_85 rfl ?_
                  refine s_sipush (pc := 87) 9331 dX12_first_87 ks_9331 ?_
                  refine s_icge (pc := 90) 150 dX12_first_90 rfl ?_ ?_
                  · exact s_drop (hR68 s63.1 hs64) (And.intro rfl (And.intro rfl (And.intro rfl (And.intro rfl trivial))))
                  · refine s_aload_n (pc := 93) 0 dX12_first_93 rfl rfl ?_
                    refine s_geto (pc := 94) F_12 39 rfl o69 dX12_first_94 kf_X12_89 ?_
                    refine s_rvB (fun r72 => ?_)
                    refine s_iload (pc := 97) dX12_first_97 rfl ?_
                    refine s_aload_n (pc := 99) 0 dX12_first_99 rfl rfl ?_
                    refine s_geto (pc := 100) F_12 39 rfl o69 dX12_first_100 kf_X12_89 ?_
                    refine s_rvB (fun r73 => ?_)
                    refine s_iload (pc := 103) dX12_first_103 rfl ?_
                    refine s_grd (fun o74 => ?_)
                    refine s_grd (fun i75 => ?_)
                    refine s_iald (pc := 105) o74 i75 dX12_first_105 ?_
                    refine s_ldc (pc := 106) dX12_first_106 ki_X12_229 ?_
                    refine s_join s63.1 (fun s77 : Int32 => s63.1) 143 (fun s77 : Int32 => [some (.ref (gh (xG X) + a0)), some (.int p1), some (.int p2), some (.int s31.2), some (.int s63.2), none]) (fun s77 : Int32 => [.int s77, .int s63.2, .ref (gh (xG X) + r72)]) (fun s77 hs78 => ?_) (fun j76 hj79 => ?_)
                    · show S0 X _ s63.1 143 [some (.ref (gh (xG X) + a0)), some (.int p1), some (.int p2), some (.int s31.2), some (.int s63.2), none] [.int s77, .int s63.2, .ref (gh (xG X) + r72)] _
                      refine s_grd (fun o80 => ?_)
                      refine s_grd (fun i81 => ?_)
                      refine s_iast (pc := 143) o80 i81 dX12_first_143 (fun M82 hM83 => ?_)
                      have h84 := le_wI hM83
                      have o85 := h84.ok o69
                      refine s_iinc (pc := 144) dX12_first_144 rfl (v := s63.2 + 1) (congrArg (fun z : Int32 => s63.2 + z) kc_1) (nlt rfl) rfl (L' := [some (.ref (gh (xG X) + a0)), some (.int p1), some (.int p2), some (.int s31.2), some (.int (s63.2 + 1)), none]) rfl ?_
                      refine s_bv (fun x86 : Int32 => [some (.ref (gh (xG X) + a0)), some (.int p1), some (.int p2), some (.int s31.2), some (.int x86), none]) (fun x86 => ?_) rfl
                      refine s_goto (pc := 147) 85 dX12_first_147 rfl ?_
                      exact s_drop (hT66 (M82, x86) (hs64.tr h84)) (And.intro rfl (And.intro rfl (And.intro rfl (And.intro rfl (And.intro rfl trivial)))))
                    · refine s_join s63.1 (fun s88 : Unit => s63.1) 123 (fun s88 : Unit => [some (.ref (gh (xG X) + a0)), some (.int p1), some (.int p2), some (.int s31.2), some (.int s63.2), none]) (fun s88 : Unit => [.int s63.2, .ref (gh (xG X) + r72)]) (fun s88 hs89 => ?_) (fun j87 hj90 => ?_)
                      · show S0 X _ s63.1 123 [some (.ref (gh (xG X) + a0)), some (.int p1), some (.int p2), some (.int s31.2), some (.int s63.2), none] [.int s63.2, .ref (gh (xG X) + r72)] _
                        refine s_ldc (pc := 123) dX12_first_123 ki_X12_229 ?_
                        refine s_goto (pc := 125) 143 dX12_first_125 rfl ?_
                        exact s_drop (hj79 1000000 Le.rf) (And.intro rfl (And.intro rfl (And.intro rfl (And.intro rfl (And.intro rfl trivial)))))
                      · refine s_icge (pc := 108) 123 dX12_first_108 rfl ?_ ?_
                        · exact s_drop (hj90 () Le.rf) (And.intro rfl (And.intro rfl (And.intro rfl (And.intro rfl (And.intro rfl trivial)))))
                        · refine s_aload_n (pc := 111) 0 dX12_first_111 rfl rfl ?_
                          refine s_geto (pc := 112) F_12 35 rfl o69 dX12_first_112 kf_X12_77 ?_
                          refine s_rvB (fun r91 => ?_)
                          refine s_iload (pc := 115) dX12_first_115 rfl ?_
                          refine s_grd (fun o92 => ?_)
                          refine s_grd (fun i93 => ?_)
                          refine s_iald (pc := 117) o92 i93 dX12_first_117 ?_
                          refine s_ldc (pc := 118) dX12_first_118 ki_X12_229 ?_
                          refine s_iclt (pc := 120) 128 dX12_first_120 rfl ?_ ?_
                          · refine s_aload_n (pc := 128) 0 dX12_first_128 rfl rfl ?_
                            refine s_geto (pc := 129) F_12 39 rfl o69 dX12_first_129 kf_X12_89 ?_
                            refine s_rvB (fun r94 => ?_)
                            refine s_iload (pc := 132) dX12_first_132 rfl ?_
                            refine s_grd (fun o95 => ?_)
                            refine s_grd (fun i96 => ?_)
                            refine s_iald (pc := 134) o95 i96 dX12_first_134 ?_
                            refine s_aload_n (pc := 135) 0 dX12_first_135 rfl rfl ?_
                            refine s_geto (pc := 136) F_12 35 rfl o69 dX12_first_136 kf_X12_77 ?_
                            refine s_rvB (fun r97 => ?_)
                            refine s_iload (pc := 139) dX12_first_139 rfl ?_
                            refine s_grd (fun o98 => ?_)
                            refine s_grd (fun i99 => ?_)
                            refine s_iald (pc := 141) o98 i99 dX12_first_141 ?_
                            refine s_iadd (pc := 142) dX12_first_142 ?_
                            exact s_drop (hj79 ((mI s63.1 r94 s63.2.toNatClampNeg) + (mI s63.1 r97 s63.2.toNatClampNeg)) Le.rf) (And.intro rfl (And.intro rfl (And.intro rfl (And.intro rfl (And.intro rfl trivial)))))
                          · exact s_drop (hj90 () Le.rf) (And.intro rfl (And.intro rfl (And.intro rfl (And.intro rfl (And.intro rfl trivial)))))
              · refine s_goto (pc := 66) 150 dX12_first_66 rfl ?_
                exact s_drop (hj49 s31.1 Le.rf) (And.intro rfl (And.intro rfl (And.intro rfl (And.intro rfl trivial))))
      · show S0 X _ s13.1 25 [some (.ref (gh (xG X) + a0)), some (.int p1), some (.int p2), some (.int s13.2), none, none] [] _
        have o19 := hs14.ok o12
        refine s_iload_n (pc := 25) 3 dX12_first_25 rfl rfl ?_
        refine s_sipush (pc := 26) 9331 dX12_first_26 ks_9331 ?_
        refine s_icge (pc := 29) 45 dX12_first_29 rfl ?_ ?_
        · exact s_drop (hR18 s13.1 hs14) (And.intro rfl (And.intro rfl (And.intro rfl trivial)))
        · refine s_aload_n (pc := 32) 0 dX12_first_32 rfl rfl ?_
          refine s_geto (pc := 33) F_12 39 rfl o19 dX12_first_33 kf_X12_89 ?_
          refine s_rvB (fun r22 => ?_)
          refine s_iload_n (pc := 36) 3 dX12_first_36 rfl rfl ?_
          refine s_iconst (pc := 37) 0 dX12_first_37 kc_0 ?_
          refine s_grd (fun o23 => ?_)
          refine s_grd (fun i24 => ?_)
          refine s_iast (pc := 38) o23 i24 dX12_first_38 (fun M25 hM26 => ?_)
          have h27 := le_wI hM26
          have o28 := h27.ok o19
          refine s_iinc (pc := 39) dX12_first_39 rfl (v := s13.2 + 1) (congrArg (fun z : Int32 => s13.2 + z) kc_1) (nlt rfl) rfl (L' := [some (.ref (gh (xG X) + a0)), some (.int p1), some (.int p2), some (.int (s13.2 + 1)), none, none]) rfl ?_
          refine s_bv (fun x29 : Int32 => [some (.ref (gh (xG X) + a0)), some (.int p1), some (.int p2), some (.int x29), none, none]) (fun x29 => ?_) rfl
          refine s_goto (pc := 42) 25 dX12_first_42 rfl ?_
          exact s_drop (hT16 (M25, x29) (hs14.tr h27)) (And.intro rfl (And.intro rfl (And.intro rfl (And.intro rfl trivial))))
    · refine s_iconst (pc := 17) (-1) dX12_first_17 kc_m1 ?_
      exact s_iret rfl dX12_first_18
