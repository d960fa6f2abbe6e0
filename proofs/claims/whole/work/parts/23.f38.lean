set_option maxRecDepth 100000 in
set_option maxHeartbeats 8000000 in
noncomputable def f_X12_lines (M : Mem) (a0 : Nat) (p1 : Int32) (p2 : Int32) : Option (Mem × Int32) :=
  grd (okO M 12 a0) (Option.bind (f_X12_areHouses M a0 p1) (fun q2 => if q2 = 0 then (some (M, (-1))) else (Option.bind (f_X12_ones p1) (fun q5 => if 6 < q5 then (some (M, (-1))) else (Option.bind (f_X12_ones p1) (fun q8 => Option.bind (f_X12_lies p2 0 (1 + q8)) (fun q11 => if q11 = 0 then (some (M, (-1))) else (Option.bind (loopO (σ := Mem × Int32 × Int32) (ρ := Mem × Int32) (fun s14 => Option.bind (mR s14.1 a0 3) (fun r23 => grd (okO s14.1 14 r23) (grd (vp_in 56 (mL s14.1 r23)) (if (mI s14.1 r23 (56 : Int32).toNatClampNeg) ≤ s14.2.2 then (some (.inr (s14.1, s14.2.1))) else (Option.bind (f_X12_isOne p1 s14.2.2) (fun q26 => bv (fun (s30 : Mem × Int32) => bv (s14.2.2 + 1 : Int32) (fun x34 => some (.inl (s30.1, s30.2, x34)))) (fun j29 => if q26 = 0 then (j29 (s14.1, s14.2.1)) else (Option.bind (mR s14.1 a0 40) (fun r35 => grd (okO s14.1 14 r35) (grd (vp_in s14.2.1 (mL s14.1 r35)) (bv (wI s14.1 r35 s14.2.1.toNatClampNeg s14.2.2) (fun M38 => bv (s14.2.1 + 1 : Int32) (fun x42 => j29 (M38, x42)))))))))))))) (M, 0, 0)) (fun (x21 : Mem × Int32) => Option.bind (loopO (σ := Mem × Int32) (ρ := Mem) (fun s44 => if x21.2 ≤ s44.2 then (some (.inr s44.1)) else (Option.bind (mR s44.1 a0 40) (fun r53 => grd (okO s44.1 14 r53) (grd (vp_in s44.2 (mL s44.1 r53)) (Option.bind (f_X12_fact s44.1 a0 (mI s44.1 r53 s44.2.toNatClampNeg) 2) (fun q56 => Option.bind (f_X12_placeOf q56) (fun q59 => Option.bind (f_X12_measures s44.1 a0 q59) (fun q62 => Option.bind (loopO (σ := Mem × Int32) (ρ := Mem) (fun s67 => if x21.2 ≤ s67.2 then (some (.inr s67.1)) else (Option.bind (mR s67.1 a0 41) (fun r76 => Option.bind (mR s67.1 a0 35) (fun r77 => Option.bind (mR s67.1 a0 40) (fun r78 => grd (okO s67.1 14 r78) (grd (vp_in s67.2 (mL s67.1 r78)) (Option.bind (f_X12_fact s67.1 a0 (mI s67.1 r78 s67.2.toNatClampNeg) 2) (fun q81 => Option.bind (f_X12_placeOf q81) (fun q84 => grd (okO s67.1 14 r77) (grd (vp_in q84 (mL s67.1 r77)) (grd (okO s67.1 14 r76) (grd (vp_in ((6 * s44.2) + s67.2) (mL s67.1 r76)) (bv (wI s67.1 r76 ((6 * s44.2) + s67.2).toNatClampNeg (mI s67.1 r77 q84.toNatClampNeg)) (fun M91 => bv (s67.2 + 1 : Int32) (fun x95 => some (.inl (M91, x95))))))))))))))))) (q62, 0)) (fun (x74 : Mem) => bv (s44.2 + 1 : Int32) (fun x97 => some (.inl (x74, x97)))))))))))) (x21.1, 0)) (fun (x51 : Mem) => Option.bind (loopO (σ := Int32 × Int32) (ρ := Int32) (fun s99 => if x21.2 ≤ s99.2 then (some (.inr s99.1)) else (bv (s99.1 * (x21.2 + 1) : Int32) (fun x107 => bv (s99.2 + 1 : Int32) (fun x108 => some (.inl (x107, x108)))))) (1, 0)) (fun (x105 : Int32) => Option.bind (loopO (σ := Mem × Int32 × Int32 × Int32) (ρ := Mem × Int32 × Int32) (fun s109 => if x105 ≤ s109.2.2.2 then (some (.inr (s109.1, s109.2.1, s109.2.2.1))) else (bv (x21.2 - 1 : Int32) (fun x118 => Option.bind (loopO (σ := Mem × Int32 × Int32 × Int32) (ρ := Mem × Int32) (fun s119 => if s119.2.2.2 < 0 then (some (.inr (s119.1, s119.2.2.1))) else (Option.bind (mR s119.1 a0 42) (fun r128 => grd (¬ (x21.2 + 1) = 0) (grd (okO s119.1 14 r128) (grd (vp_in s119.2.2.2 (mL s119.1 r128)) (bv (wI s119.1 r128 s119.2.2.2.toNatClampNeg ((ir s119.2.1 (x21.2 + 1)) - 1)) (fun M132 => grd (¬ (x21.2 + 1) = 0) (bv (s119.2.1 / (x21.2 + 1) : Int32) (fun x137 => Option.bind (mR M132 a0 42) (fun r138 => grd (okO M132 14 r138) (grd (vp_in s119.2.2.2 (mL M132 r138)) (bv (fun (s142 : Int32) => bv (s119.2.2.1 + s142 : Int32) (fun x145 => bv (s119.2.2.2 + (-1) : Int32) (fun x146 => some (.inl (M132, x137, x145, x146))))) (fun j141 => if (mI M132 r138 s119.2.2.2.toNatClampNeg) = (-1) then (j141 0) else (Option.bind (mR M132 a0 42) (fun r147 => grd (okO M132 14 r147) (grd (vp_in s119.2.2.2 (mL M132 r147)) (if (mI M132 r147 s119.2.2.2.toNatClampNeg) = s119.2.2.2 then (j141 1000000) else (Option.bind (mR M132 a0 41) (fun r150 => Option.bind (mR M132 a0 42) (fun r151 => grd (okO M132 14 r151) (grd (vp_in s119.2.2.2 (mL M132 r151)) (grd (okO M132 14 r150) (grd (vp_in ((6 * (mI M132 r151 s119.2.2.2.toNatClampNeg)) + s119.2.2.2) (mL M132 r150)) (j141 (mI M132 r150 ((6 * (mI M132 r151 s119.2.2.2.toNatClampNeg)) + s119.2.2.2).toNatClampNeg))))))))))))))))))))))))) (s109.1, s109.2.2.2, 0, x118)) (fun (x126 : Mem × Int32) => bv (fun (s158 : Mem × Int32 × Int32) => bv (s109.2.2.2 + 1 : Int32) (fun x162 => some (.inl (s158.1, s158.2.1, s158.2.2, x162)))) (fun j157 => if 1000000 ≤ x126.2 then (j157 (x126.1, s109.2.1, s109.2.2.1)) else (if s109.2.1 < x126.2 then (j157 (x126.1, s109.2.1, s109.2.2.1)) else (Option.bind (f_X12_isTree x126.1 a0 x21.2) (fun q163 => if q163 = 0 then (j157 (x126.1, s109.2.1, s109.2.2.1)) else (bv (fun (s167 : Mem × Int32 × Int32) => bv (s167.2.2 + 1 : Int32) (fun x171 => j157 (s167.1, s167.2.1, x171))) (fun j166 => if s109.2.1 ≤ x126.2 then (j166 (x126.1, s109.2.1, s109.2.2.1)) else (Option.bind (loopO (σ := Mem × Int32) (ρ := Mem) (fun s172 => if x21.2 ≤ s172.2 then (some (.inr s172.1)) else (Option.bind (mR s172.1 a0 43) (fun r181 => Option.bind (mR s172.1 a0 42) (fun r182 => grd (okO s172.1 14 r182) (grd (vp_in s172.2 (mL s172.1 r182)) (grd (okO s172.1 14 r181) (grd (vp_in s172.2 (mL s172.1 r181)) (bv (wI s172.1 r181 s172.2.toNatClampNeg (mI s172.1 r182 s172.2.toNatClampNeg)) (fun M187 => bv (s172.2 + 1 : Int32) (fun x191 => some (.inl (M187, x191)))))))))))) (x126.1, 0)) (fun (x179 : Mem) => j166 (x179, x126.2, 0))))))))))))) (x51, 1000000, 0, 0)) (fun (x116 : Mem × Int32 × Int32) => if x116.2.2 = 0 then (some (x116.1, (-1))) else (if p2 = 0 then (some (x116.1, x116.2.1)) else (if p2 = 1 then (some (x116.1, x116.2.2)) else (Option.bind (mR x116.1 a0 43) (fun r194 => grd (okO x116.1 14 r194) (grd (vp_in (p2 - 2) (mL x116.1 r194)) (if (mI x116.1 r194 (p2 - 2).toNatClampNeg) = (-1) then (some (x116.1, 100)) else (Option.bind (mR x116.1 a0 40) (fun r197 => Option.bind (mR x116.1 a0 43) (fun r198 => grd (okO x116.1 14 r198) (grd (vp_in (p2 - 2) (mL x116.1 r198)) (grd (okO x116.1 14 r197) (grd (vp_in (mI x116.1 r198 (p2 - 2).toNatClampNeg) (mL x116.1 r197)) (some (x116.1, mI x116.1 r197 (mI x116.1 r198 (p2 - 2).toNatClampNeg).toNatClampNeg))))))))))))))))))))))))))
abbrev Y_X12_lines : Sta := (RX12, "lines", cX12_lines, 11, (some .int), 210)
set_option maxRecDepth 100000 in
set_option maxHeartbeats 8000000 in
theorem t_X12_lines {l : Launch} {G : Gh} {M : Mem} {a0 : Nat} {p1 : Int32} {p2 : Int32} {q : Mem × Int32} (h : f_X12_lines M a0 p1 p2 = some q) : Ctr l G yX12_lines Y_X12_lines M [.ref (gh G + a0), .int p1, .int p2] q.1 (some (.int q.2)) := by
  refine Ctr.of (Y := Y_X12_lines) (L := [some (.ref (gh G + a0)), some (.int p1), some (.int p2), none, none, none, none, none, none, none, none]) (t := Option.bind (f_X12_lines M a0 p1 p2) (fun q => some (q.1, some (.int q.2)))) (by decide) rfl rfl (nle rfl) (Lof_in 8 _ rfl) (fun X hG hl => ?_) (by rw [h]; rfl)
  subst hG
  subst hl
  unfold f_X12_lines
  refine s_aload_n (pc := 0) 0 dX12_lines_0 rfl rfl ?_
  refine s_iload_n (pc := 1) 1 dX12_lines_1 rfl rfl ?_
  refine s_grd (fun o1 => ?_)
  refine s_bind (fun q2 hq3 => ?_)
  have hC4 := t_X12_areHouses (l := xl X) (G := xG X) hq3
  refine s_callV (pc := 2) (As := [.int p1]) (st := []) (nlt rfl) (q := (RX12, TX12, 59)) rfl rfl o1 cl_X12_areHouses wi_X12_areHouses wl_X12_areHouses km_X12_387 rfl rfl (nle rfl) (nle rfl) (nle rfl) dX12_lines_2 hC4 ?_
  show S0 X _ M 5 [some (.ref (gh (xG X) + a0)), some (.int p1), some (.int p2), none, none, none, none, none, none, none, none] [.int q2] _
  refine s_ifeq (pc := 5) 31 dX12_lines_5 rfl ?_ ?_
  · refine s_iconst (pc := 31) (-1) dX12_lines_31 kc_m1 ?_
    exact s_iret rfl dX12_lines_32
  · refine s_iload_n (pc := 8) 1 dX12_lines_8 rfl rfl ?_
    refine s_bind (fun q5 hq6 => ?_)
    have hC7 := t_X12_ones (l := xl X) (G := xG X) (M := M) hq6
    refine s_callS (pc := 9) (As := [.int p1]) (st := []) cl_X12_ones wt_X12_ones km_X12_396 rfl rfl (nle rfl) (nle rfl) (nle rfl) dX12_lines_9 hC7 ?_
    show S0 X _ M 12 [some (.ref (gh (xG X) + a0)), some (.int p1), some (.int p2), none, none, none, none, none, none, none, none] [.int q5] _
    refine s_bipush (pc := 12) 6 dX12_lines_12 kb_6 ?_
    refine s_icgt (pc := 14) 31 dX12_lines_14 rfl ?_ ?_
    · refine s_iconst (pc := 31) (-1) dX12_lines_31 kc_m1 ?_
      exact s_iret rfl dX12_lines_32
    · refine s_iload_n (pc := 17) 2 dX12_lines_17 rfl rfl ?_
      refine s_iconst (pc := 18) 0 dX12_lines_18 kc_0 ?_
      refine s_iconst (pc := 19) 1 dX12_lines_19 kc_1 ?_
      refine s_iload_n (pc := 20) 1 dX12_lines_20 rfl rfl ?_
      refine s_bind (fun q8 hq9 => ?_)
      have hC10 := t_X12_ones (l := xl X) (G := xG X) (M := M) hq9
      refine s_callS (pc := 21) (As := [.int p1]) (st := [.int 1, .int 0, .int p2]) cl_X12_ones wt_X12_ones km_X12_396 rfl rfl (nle rfl) (nle rfl) (nle rfl) dX12_lines_21 hC10 ?_
      show S0 X _ M 24 [some (.ref (gh (xG X) + a0)), some (.int p1), some (.int p2), none, none, none, none, none, none, none, none] [.int q8, .int 1, .int 0, .int p2] _
      refine s_iadd (pc := 24) dX12_lines_24 ?_
      refine s_bind (fun q11 hq12 => ?_)
      have hC13 := t_X12_lies (l := xl X) (G := xG X) (M := M) hq12
      refine s_callS (pc := 25) (As := [.int p2, .int 0, .int (1 + q8)]) (st := []) cl_X12_lies wt_X12_lies km_X12_123 rfl rfl (nle rfl) (nle rfl) (nle rfl) dX12_lines_25 hC13 ?_
      show S0 X _ M 28 [some (.ref (gh (xG X) + a0)), some (.int p1), some (.int p2), none, none, none, none, none, none, none, none] [.int q11] _
      refine s_ifne (pc := 28) 33 dX12_lines_28 rfl ?_ ?_
      · refine s_iconst (pc := 33) 0 dX12_lines_33 kc_0 ?_
        refine s_istore_n (pc := 34) 3 dX12_lines_34 rfl (nlt rfl) rfl (L' := [some (.ref (gh (xG X) + a0)), some (.int p1), some (.int p2), some (.int 0), none, none, none, none, none, none, none]) rfl ?_
        refine s_iconst (pc := 35) 0 dX12_lines_35 kc_0 ?_
        refine s_istore (pc := 36) dX12_lines_36 (nlt rfl) rfl (L' := [some (.ref (gh (xG X) + a0)), some (.int p1), some (.int p2), some (.int 0), some (.int 0), none, none, none, none, none, none]) rfl ?_
        refine s_drop (L' := [some (.ref (gh (xG X) + a0)), some (.int p1), some (.int p2), some (.int 0), some (.int 0), none, none, none, none, none, none]) ?_ (And.intro rfl (And.intro rfl (And.intro rfl (And.intro rfl (And.intro rfl trivial)))))
        refine s_loop1 M (fun s14 : Mem × Int32 × Int32 => s14.1) (fun s14 : Mem × Int32 × Int32 => [some (.ref (gh (xG X) + a0)), some (.int p1), some (.int p2), some (.int s14.2.1), some (.int s14.2.2), none, none, none, none, none, none]) (fun x21 : Mem × Int32 => x21.1) 79 (fun x21 : Mem × Int32 => [some (.ref (gh (xG X) + a0)), none, some (.int p2), some (.int x21.2), none, none, none, none, none, none, none]) (fun x21 hx22 => ?_) (fun T16 R18 hT17 hR19 s14 hs15 => ?_) (M, 0, 0) Le.rf
        · show S0 X _ x21.1 79 [some (.ref (gh (xG X) + a0)), none, some (.int p2), some (.int x21.2), none, none, none, none, none, none, none] [] _
          have o43 := hx22.ok o1
          refine s_iconst (pc := 79) 0 dX12_lines_79 kc_0 ?_
          refine s_istore (pc := 80) dX12_lines_80 (nlt rfl) rfl (L' := [some (.ref (gh (xG X) + a0)), none, some (.int p2), some (.int x21.2), some (.int 0), none, none, none, none, none, none]) rfl ?_
          refine s_drop (L' := [some (.ref (gh (xG X) + a0)), none, some (.int p2), some (.int x21.2), some (.int 0), none, none, none, none, none, none]) ?_ (And.intro rfl (And.intro rfl (And.intro rfl (And.intro rfl trivial))))
          refine s_loop1 x21.1 (fun s44 : Mem × Int32 => s44.1) (fun s44 : Mem × Int32 => [some (.ref (gh (xG X) + a0)), none, some (.int p2), some (.int x21.2), some (.int s44.2), none, none, none, none, none, none]) (fun x51 : Mem => x51) 161 (fun x51 : Mem => [some (.ref (gh (xG X) + a0)), none, some (.int p2), some (.int x21.2), none, none, none, none, none, none, none]) (fun x51 hx52 => ?_) (fun T46 R48 hT47 hR49 s44 hs45 => ?_) (x21.1, 0) Le.rf
          · show S0 X _ x51 161 [some (.ref (gh (xG X) + a0)), none, some (.int p2), some (.int x21.2), none, none, none, none, none, none, none] [] _
            have o98 := hx52.ok o43
            refine s_iconst (pc := 161) 1 dX12_lines_161 kc_1 ?_
            refine s_istore (pc := 162) dX12_lines_162 (nlt rfl) rfl (L' := [some (.ref (gh (xG X) + a0)), none, some (.int p2), some (.int x21.2), some (.int 1), none, none, none, none, none, none]) rfl ?_
            refine s_iconst (pc := 164) 0 dX12_lines_164 kc_0 ?_
            refine s_istore (pc := 165) dX12_lines_165 (nlt rfl) rfl (L' := [some (.ref (gh (xG X) + a0)), none, some (.int p2), some (.int x21.2), some (.int 1), some (.int 0), none, none, none, none, none]) rfl ?_
            refine s_drop (L' := [some (.ref (gh (xG X) + a0)), none, some (.int p2), some (.int x21.2), some (.int 1), some (.int 0), none, none, none, none, none]) ?_ (And.intro rfl (And.intro rfl (And.intro rfl (And.intro rfl (And.intro rfl trivial)))))
            refine s_loop1 x51 (fun s99 : Int32 × Int32 => x51) (fun s99 : Int32 × Int32 => [some (.ref (gh (xG X) + a0)), none, some (.int p2), some (.int x21.2), some (.int s99.1), some (.int s99.2), none, none, none, none, none]) (fun x105 : Int32 => x51) 187 (fun x105 : Int32 => [some (.ref (gh (xG X) + a0)), none, some (.int p2), some (.int x21.2), some (.int x105), none, none, none, none, none, none]) (fun x105 hx106 => ?_) (fun T101 R103 hT102 hR104 s99 hs100 => ?_) (1, 0) Le.rf
            · show S0 X _ x51 187 [some (.ref (gh (xG X) + a0)), none, some (.int p2), some (.int x21.2), some (.int x105), none, none, none, none, none, none] [] _
              refine s_ldc (pc := 187) dX12_lines_187 ki_X12_229 ?_
              refine s_istore (pc := 189) dX12_lines_189 (nlt rfl) rfl (L' := [some (.ref (gh (xG X) + a0)), none, some (.int p2), some (.int x21.2), some (.int x105), some (.int 1000000), none, none, none, none, none]) rfl ?_
              refine s_iconst (pc := 191) 0 dX12_lines_191 kc_0 ?_
              refine s_istore (pc := 192) dX12_lines_192 (nlt rfl) rfl (L' := [some (.ref (gh (xG X) + a0)), none, some (.int p2), some (.int x21.2), some (.int x105), some (.int 1000000), some (.int 0), none, none, none, none]) rfl ?_
              refine s_iconst (pc := 194) 0 dX12_lines_194 kc_0 ?_
              refine s_istore (pc := 195) dX12_lines_195 (nlt rfl) rfl (L' := [some (.ref (gh (xG X) + a0)), none, some (.int p2), some (.int x21.2), some (.int x105), some (.int 1000000), some (.int 0), some (.int 0), none, none, none]) rfl ?_
              refine s_drop (L' := [some (.ref (gh (xG X) + a0)), none, some (.int p2), some (.int x21.2), some (.int x105), some (.int 1000000), some (.int 0), some (.int 0), none, none, none]) ?_ (And.intro rfl (And.intro rfl (And.intro rfl (And.intro rfl (And.intro rfl (And.intro rfl (And.intro rfl trivial)))))))
              refine s_loop1 x51 (fun s109 : Mem × Int32 × Int32 × Int32 => s109.1) (fun s109 : Mem × Int32 × Int32 × Int32 => [some (.ref (gh (xG X) + a0)), none, some (.int p2), some (.int x21.2), some (.int x105), some (.int s109.2.1), some (.int s109.2.2.1), some (.int s109.2.2.2), none, none, none]) (fun x116 : Mem × Int32 × Int32 => x116.1) 382 (fun x116 : Mem × Int32 × Int32 => [some (.ref (gh (xG X) + a0)), none, some (.int p2), none, none, some (.int x116.2.1), some (.int x116.2.2), none, none, none, none]) (fun x116 hx117 => ?_) (fun T111 R113 hT112 hR114 s109 hs110 => ?_) (x51, 1000000, 0, 0) Le.rf
              · show S0 X _ x116.1 382 [some (.ref (gh (xG X) + a0)), none, some (.int p2), none, none, some (.int x116.2.1), some (.int x116.2.2), none, none, none, none] [] _
                have o193 := hx117.ok o98
                refine s_iload (pc := 382) dX12_lines_382 rfl ?_
                refine s_ifne (pc := 384) 389 dX12_lines_384 rfl ?_ ?_
                · refine s_iload_n (pc := 389) 2 dX12_lines_389 rfl rfl ?_
                  refine s_ifne (pc := 390) 398 dX12_lines_390 rfl ?_ ?_
                  · refine s_iload_n (pc := 398) 2 dX12_lines_398 rfl rfl ?_
                    refine s_iconst (pc := 399) 1 dX12_lines_399 kc_1 ?_
                    refine s_icne (pc := 400) 408 dX12_lines_400 rfl ?_ ?_
                    · refine s_aload_n (pc := 408) 0 dX12_lines_408 rfl rfl ?_
                      refine s_geto (pc := 409) F_12 43 rfl o193 dX12_lines_409 kf_X12_101 ?_
                      refine s_rvB (fun r194 => ?_)
                      refine s_iload_n (pc := 412) 2 dX12_lines_412 rfl rfl ?_
                      refine s_iconst (pc := 413) 2 dX12_lines_413 kc_2 ?_
                      refine s_isub (pc := 414) dX12_lines_414 ?_
                      refine s_grd (fun o195 => ?_)
                      refine s_grd (fun i196 => ?_)
                      refine s_iald (pc := 415) o195 i196 dX12_lines_415 ?_
                      refine s_iconst (pc := 416) (-1) dX12_lines_416 kc_m1 ?_
                      refine s_icne (pc := 417) 425 dX12_lines_417 rfl ?_ ?_
                      · refine s_aload_n (pc := 425) 0 dX12_lines_425 rfl rfl ?_
                        refine s_geto (pc := 426) F_12 40 rfl o193 dX12_lines_426 kf_X12_92 ?_
                        refine s_rvB (fun r197 => ?_)
                        refine s_aload_n (pc := 429) 0 dX12_lines_429 rfl rfl ?_
                        refine s_geto (pc := 430) F_12 43 rfl o193 dX12_lines_430 kf_X12_101 ?_
                        refine s_rvB (fun r198 => ?_)
                        refine s_iload_n (pc := 433) 2 dX12_lines_433 rfl rfl ?_
                        refine s_iconst (pc := 434) 2 dX12_lines_434 kc_2 ?_
                        refine s_isub (pc := 435) dX12_lines_435 ?_
                        refine s_grd (fun o199 => ?_)
                        refine s_grd (fun i200 => ?_)
                        refine s_iald (pc := 436) o199 i200 dX12_lines_436 ?_
                        refine s_grd (fun o201 => ?_)
                        refine s_grd (fun i202 => ?_)
                        refine s_iald (pc := 437) o201 i202 dX12_lines_437 ?_
                        exact s_iret rfl dX12_lines_438
                      · refine s_bipush (pc := 420) 100 dX12_lines_420 kb_100 ?_
                        refine s_goto (pc := 422) 438 dX12_lines_422 rfl ?_
                        exact s_iret rfl dX12_lines_438
                    · refine s_iload (pc := 403) dX12_lines_403 rfl ?_
                      refine s_goto (pc := 405) 438 dX12_lines_405 rfl ?_
                      exact s_iret rfl dX12_lines_438
                  · refine s_iload (pc := 393) dX12_lines_393 rfl ?_
                    refine s_goto (pc := 395) 438 dX12_lines_395 rfl ?_
                    exact s_iret rfl dX12_lines_438
                · refine s_iconst (pc := 387) (-1) dX12_lines_387 kc_m1 ?_
                  exact s_iret rfl dX12_lines_388
              · show S0 X _ s109.1 197 [some (.ref (gh (xG X) + a0)), none, some (.int p2), some (.int x21.2), some (.int x105), some (.int s109.2.1), some (.int s109.2.2.1), some (.int s109.2.2.2), none, none, none] [] _
                have o115 := hs110.ok o98
                refine s_iload (pc := 197) dX12_lines_197 rfl ?_
                refine s_iload (pc := 199) dX12_lines_199 rfl ?_
                refine s_icge (pc := 201) 382 dX12_lines_201 rfl ?_ ?_
                · exact s_drop (hR114 (s109.1, s109.2.1, s109.2.2.1) hs110) (And.intro rfl (And.intro rfl (And.intro rfl (And.intro rfl trivial))))
                · refine s_iload (pc := 204) dX12_lines_204 rfl ?_
                  refine s_istore (pc := 206) dX12_lines_206 (nlt rfl) rfl (L' := [some (.ref (gh (xG X) + a0)), none, some (.int p2), some (.int x21.2), some (.int x105), some (.int s109.2.1), some (.int s109.2.2.1), some (.int s109.2.2.2), some (.int s109.2.2.2), none, none]) rfl ?_
                  refine s_iconst (pc := 208) 0 dX12_lines_208 kc_0 ?_
                  refine s_istore (pc := 209) dX12_lines_209 (nlt rfl) rfl (L' := [some (.ref (gh (xG X) + a0)), none, some (.int p2), some (.int x21.2), some (.int x105), some (.int s109.2.1), some (.int s109.2.2.1), some (.int s109.2.2.2), some (.int s109.2.2.2), some (.int 0), none]) rfl ?_
                  refine s_iload_n (pc := 211) 3 dX12_lines_211 rfl rfl ?_
                  refine s_iconst (pc := 212) 1 dX12_lines_212 kc_1 ?_
                  refine s_isub (pc := 213) dX12_lines_213 ?_
                  refine s_istore (pc := 214) dX12_lines_214 (nlt rfl) rfl (L' := [some (.ref (gh (xG X) + a0)), none, some (.int p2), some (.int x21.2), some (.int x105), some (.int s109.2.1), some (.int s109.2.2.1), some (.int s109.2.2.2), some (.int s109.2.2.2), some (.int 0), some (.int (x21.2 - 1))]) rfl ?_
                  refine s_bv (fun x118 : Int32 => [some (.ref (gh (xG X) + a0)), none, some (.int p2), some (.int x21.2), some (.int x105), some (.int s109.2.1), some (.int s109.2.2.1), some (.int s109.2.2.2), some (.int s109.2.2.2), some (.int 0), some (.int x118)]) (fun x118 => ?_) rfl
                  refine s_drop (L' := [some (.ref (gh (xG X) + a0)), none, some (.int p2), some (.int x21.2), some (.int x105), some (.int s109.2.1), some (.int s109.2.2.1), some (.int s109.2.2.2), some (.int s109.2.2.2), some (.int 0), some (.int x118)]) ?_ (And.intro rfl (And.intro rfl (And.intro rfl (And.intro rfl (And.intro rfl (And.intro rfl (And.intro rfl (And.intro rfl (And.intro rfl (And.intro rfl trivial))))))))))
                  refine s_loop1 s109.1 (fun s119 : Mem × Int32 × Int32 × Int32 => s119.1) (fun s119 : Mem × Int32 × Int32 × Int32 => [some (.ref (gh (xG X) + a0)), none, some (.int p2), some (.int x21.2), some (.int x105), some (.int s109.2.1), some (.int s109.2.2.1), some (.int s109.2.2.2), some (.int s119.2.1), some (.int s119.2.2.1), some (.int s119.2.2.2)]) (fun x126 : Mem × Int32 => x126.1) 305 (fun x126 : Mem × Int32 => [some (.ref (gh (xG X) + a0)), none, some (.int p2), some (.int x21.2), some (.int x105), some (.int s109.2.1), some (.int s109.2.2.1), some (.int s109.2.2.2), none, some (.int x126.2), none]) (fun x126 hx127 => ?_) (fun T121 R123 hT122 hR124 s119 hs120 => ?_) (s109.1, s109.2.2.2, 0, x118) Le.rf
                  · show S0 X _ x126.1 305 [some (.ref (gh (xG X) + a0)), none, some (.int p2), some (.int x21.2), some (.int x105), some (.int s109.2.1), some (.int s109.2.2.1), some (.int s109.2.2.2), none, some (.int x126.2), none] [] _
                    have o156 := hx127.ok o115
                    refine s_iload (pc := 305) dX12_lines_305 rfl ?_
                    refine s_ldc (pc := 307) dX12_lines_307 ki_X12_229 ?_
                    refine s_join x126.1 (fun s158 : Mem × Int32 × Int32 => s158.1) 376 (fun s158 : Mem × Int32 × Int32 => [some (.ref (gh (xG X) + a0)), none, some (.int p2), some (.int x21.2), some (.int x105), some (.int s158.2.1), some (.int s158.2.2), some (.int s109.2.2.2), none, none, none]) (fun s158 : Mem × Int32 × Int32 => []) (fun s158 hs159 => ?_) (fun j157 hj160 => ?_)
                    · show S0 X _ s158.1 376 [some (.ref (gh (xG X) + a0)), none, some (.int p2), some (.int x21.2), some (.int x105), some (.int s158.2.1), some (.int s158.2.2), some (.int s109.2.2.2), none, none, none] [] _
                      have o161 := hs159.ok o156
                      refine s_iinc (pc := 376) dX12_lines_376 rfl (v := s109.2.2.2 + 1) (congrArg (fun z : Int32 => s109.2.2.2 + z) kc_1) (nlt rfl) rfl (L' := [some (.ref (gh (xG X) + a0)), none, some (.int p2), some (.int x21.2), some (.int x105), some (.int s158.2.1), some (.int s158.2.2), some (.int (s109.2.2.2 + 1)), none, none, none]) rfl ?_
                      refine s_bv (fun x162 : Int32 => [some (.ref (gh (xG X) + a0)), none, some (.int p2), some (.int x21.2), some (.int x105), some (.int s158.2.1), some (.int s158.2.2), some (.int x162), none, none, none]) (fun x162 => ?_) rfl
                      refine s_goto (pc := 379) 197 dX12_lines_379 rfl ?_
                      exact s_drop (hT112 (s158.1, s158.2.1, s158.2.2, x162) (hs110.tr (hx127.tr hs159))) (And.intro rfl (And.intro rfl (And.intro rfl (And.intro rfl (And.intro rfl (And.intro rfl (And.intro rfl trivial)))))))
                    · refine s_icge (pc := 309) 376 dX12_lines_309 rfl ?_ ?_
                      · exact s_drop (hj160 (x126.1, s109.2.1, s109.2.2.1) Le.rf) (And.intro rfl (And.intro rfl (And.intro rfl (And.intro rfl (And.intro rfl (And.intro rfl (And.intro rfl trivial)))))))
                      · refine s_iload (pc := 312) dX12_lines_312 rfl ?_
                        refine s_iload (pc := 314) dX12_lines_314 rfl ?_
                        refine s_icgt (pc := 316) 376 dX12_lines_316 rfl ?_ ?_
                        · exact s_drop (hj160 (x126.1, s109.2.1, s109.2.2.1) Le.rf) (And.intro rfl (And.intro rfl (And.intro rfl (And.intro rfl (And.intro rfl (And.intro rfl (And.intro rfl trivial)))))))
                        · refine s_aload_n (pc := 319) 0 dX12_lines_319 rfl rfl ?_
                          refine s_iload_n (pc := 320) 3 dX12_lines_320 rfl rfl ?_
                          refine s_bind (fun q163 hq164 => ?_)
                          have hC165 := t_X12_isTree (l := xl X) (G := xG X) hq164
                          refine s_callV (pc := 321) (As := [.int x21.2]) (st := []) (nlt rfl) (q := (RX12, TX12, 59)) rfl rfl o156 cl_X12_isTree wi_X12_isTree wl_X12_isTree km_X12_399 rfl rfl (nle rfl) (nle rfl) (nle rfl) dX12_lines_321 hC165 ?_
                          show S0 X _ x126.1 324 [some (.ref (gh (xG X) + a0)), none, some (.int p2), some (.int x21.2), some (.int x105), some (.int s109.2.1), some (.int s109.2.2.1), some (.int s109.2.2.2), none, some (.int x126.2), none] [.int q163] _
                          refine s_ifne (pc := 324) 330 dX12_lines_324 rfl ?_ ?_
                          · refine s_iload (pc := 330) dX12_lines_330 rfl ?_
                            refine s_iload (pc := 332) dX12_lines_332 rfl ?_
                            refine s_join x126.1 (fun s167 : Mem × Int32 × Int32 => s167.1) 373 (fun s167 : Mem × Int32 × Int32 => [some (.ref (gh (xG X) + a0)), none, some (.int p2), some (.int x21.2), some (.int x105), some (.int s167.2.1), some (.int s167.2.2), some (.int s109.2.2.2), none, none, none]) (fun s167 : Mem × Int32 × Int32 => []) (fun s167 hs168 => ?_) (fun j166 hj169 => ?_)
                            · show S0 X _ s167.1 373 [some (.ref (gh (xG X) + a0)), none, some (.int p2), some (.int x21.2), some (.int x105), some (.int s167.2.1), some (.int s167.2.2), some (.int s109.2.2.2), none, none, none] [] _
                              have o170 := hs168.ok o156
                              refine s_iinc (pc := 373) dX12_lines_373 rfl (v := s167.2.2 + 1) (congrArg (fun z : Int32 => s167.2.2 + z) kc_1) (nlt rfl) rfl (L' := [some (.ref (gh (xG X) + a0)), none, some (.int p2), some (.int x21.2), some (.int x105), some (.int s167.2.1), some (.int (s167.2.2 + 1)), some (.int s109.2.2.2), none, none, none]) rfl ?_
                              refine s_bv (fun x171 : Int32 => [some (.ref (gh (xG X) + a0)), none, some (.int p2), some (.int x21.2), some (.int x105), some (.int s167.2.1), some (.int x171), some (.int s109.2.2.2), none, none, none]) (fun x171 => ?_) rfl
                              exact s_drop (hj160 (s167.1, s167.2.1, x171) hs168) (And.intro rfl (And.intro rfl (And.intro rfl (And.intro rfl (And.intro rfl (And.intro rfl (And.intro rfl trivial)))))))
                            · refine s_icge (pc := 334) 373 dX12_lines_334 rfl ?_ ?_
                              · exact s_drop (hj169 (x126.1, s109.2.1, s109.2.2.1) Le.rf) (And.intro rfl (And.intro rfl (And.intro rfl (And.intro rfl (And.intro rfl (And.intro rfl (And.intro rfl trivial)))))))
                              · refine s_iload (pc := 337) dX12_lines_337 rfl ?_
                                refine s_istore (pc := 339) dX12_lines_339 (nlt rfl) rfl (L' := [some (.ref (gh (xG X) + a0)), none, some (.int p2), some (.int x21.2), some (.int x105), some (.int x126.2), some (.int s109.2.2.1), some (.int s109.2.2.2), none, some (.int x126.2), none]) rfl ?_
                                refine s_iconst (pc := 341) 0 dX12_lines_341 kc_0 ?_
                                refine s_istore (pc := 342) dX12_lines_342 (nlt rfl) rfl (L' := [some (.ref (gh (xG X) + a0)), none, some (.int p2), some (.int x21.2), some (.int x105), some (.int x126.2), some (.int 0), some (.int s109.2.2.2), none, some (.int x126.2), none]) rfl ?_
                                refine s_iconst (pc := 344) 0 dX12_lines_344 kc_0 ?_
                                refine s_istore (pc := 345) dX12_lines_345 (nlt rfl) rfl (L' := [some (.ref (gh (xG X) + a0)), none, some (.int p2), some (.int x21.2), some (.int x105), some (.int x126.2), some (.int 0), some (.int s109.2.2.2), none, some (.int x126.2), some (.int 0)]) rfl ?_
                                refine s_drop (L' := [some (.ref (gh (xG X) + a0)), none, some (.int p2), some (.int x21.2), some (.int x105), some (.int x126.2), some (.int 0), some (.int s109.2.2.2), none, none, some (.int 0)]) ?_ (And.intro rfl (And.intro rfl (And.intro rfl (And.intro rfl (And.intro rfl (And.intro rfl (And.intro rfl (And.intro rfl trivial))))))))
                                refine s_loop1 x126.1 (fun s172 : Mem × Int32 => s172.1) (fun s172 : Mem × Int32 => [some (.ref (gh (xG X) + a0)), none, some (.int p2), some (.int x21.2), some (.int x105), some (.int x126.2), some (.int 0), some (.int s109.2.2.2), none, none, some (.int s172.2)]) (fun x179 : Mem => x179) 373 (fun x179 : Mem => [some (.ref (gh (xG X) + a0)), none, some (.int p2), some (.int x21.2), some (.int x105), some (.int x126.2), some (.int 0), some (.int s109.2.2.2), none, none, none]) (fun x179 hx180 => ?_) (fun T174 R176 hT175 hR177 s172 hs173 => ?_) (x126.1, 0) Le.rf
                                · show S0 X _ x179 373 [some (.ref (gh (xG X) + a0)), none, some (.int p2), some (.int x21.2), some (.int x105), some (.int x126.2), some (.int 0), some (.int s109.2.2.2), none, none, none] [] _
                                  have o192 := hx180.ok o156
                                  exact s_drop (hj169 (x179, x126.2, 0) hx180) (And.intro rfl (And.intro rfl (And.intro rfl (And.intro rfl (And.intro rfl (And.intro rfl (And.intro rfl trivial)))))))
                                · show S0 X _ s172.1 347 [some (.ref (gh (xG X) + a0)), none, some (.int p2), some (.int x21.2), some (.int x105), some (.int x126.2), some (.int 0), some (.int s109.2.2.2), none, none, some (.int s172.2)] [] _
                                  have o178 := hs173.ok o156
                                  refine s_iload (pc := 347) dX12_lines_347 rfl ?_
                                  refine s_iload_n (pc := 349) 3 dX12_lines_349 rfl rfl ?_
                                  refine s_icge (pc := 350) 373 dX12_lines_350 rfl ?_ ?_
                                  · exact s_drop (hR177 s172.1 hs173) (And.intro rfl (And.intro rfl (And.intro rfl (And.intro rfl (And.intro rfl (And.intro rfl (And.intro rfl trivial)))))))
                                  · refine s_aload_n (pc := 353) 0 dX12_lines_353 rfl rfl ?_
                                    refine s_geto (pc := 354) F_12 43 rfl o178 dX12_lines_354 kf_X12_101 ?_
                                    refine s_rvB (fun r181 => ?_)
                                    refine s_iload (pc := 357) dX12_lines_357 rfl ?_
                                    refine s_aload_n (pc := 359) 0 dX12_lines_359 rfl rfl ?_
                                    refine s_geto (pc := 360) F_12 42 rfl o178 dX12_lines_360 kf_X12_98 ?_
                                    refine s_rvB (fun r182 => ?_)
                                    refine s_iload (pc := 363) dX12_lines_363 rfl ?_
                                    refine s_grd (fun o183 => ?_)
                                    refine s_grd (fun i184 => ?_)
                                    refine s_iald (pc := 365) o183 i184 dX12_lines_365 ?_
                                    refine s_grd (fun o185 => ?_)
                                    refine s_grd (fun i186 => ?_)
                                    refine s_iast (pc := 366) o185 i186 dX12_lines_366 (fun M187 hM188 => ?_)
                                    have h189 := le_wI hM188
                                    have o190 := h189.ok o178
                                    refine s_iinc (pc := 367) dX12_lines_367 rfl (v := s172.2 + 1) (congrArg (fun z : Int32 => s172.2 + z) kc_1) (nlt rfl) rfl (L' := [some (.ref (gh (xG X) + a0)), none, some (.int p2), some (.int x21.2), some (.int x105), some (.int x126.2), some (.int 0), some (.int s109.2.2.2), none, none, some (.int (s172.2 + 1))]) rfl ?_
                                    refine s_bv (fun x191 : Int32 => [some (.ref (gh (xG X) + a0)), none, some (.int p2), some (.int x21.2), some (.int x105), some (.int x126.2), some (.int 0), some (.int s109.2.2.2), none, none, some (.int x191)]) (fun x191 => ?_) rfl
                                    refine s_goto (pc := 370) 347 dX12_lines_370 rfl ?_
                                    exact s_drop (hT175 (M187, x191) (hs173.tr h189)) (And.intro rfl (And.intro rfl (And.intro rfl (And.intro rfl (And.intro rfl (And.intro rfl (And.intro rfl (And.intro rfl trivial))))))))
                          · refine s_goto (pc := 327) 376 dX12_lines_327 rfl ?_
                            exact s_drop (hj160 (x126.1, s109.2.1, s109.2.2.1) Le.rf) (And.intro rfl (And.intro rfl (And.intro rfl (And.intro rfl (And.intro rfl (And.intro rfl (And.intro rfl trivial)))))))
                  · show S0 X _ s119.1 216 [some (.ref (gh (xG X) + a0)), none, some (.int p2), some (.int x21.2), some (.int x105), some (.int s109.2.1), some (.int s109.2.2.1), some (.int s109.2.2.2), some (.int s119.2.1), some (.int s119.2.2.1), some (.int s119.2.2.2)] [] _
                    have o125 := hs120.ok o115
                    refine s_iload (pc := 216) dX12_lines_216 rfl ?_
                    refine s_iflt (pc := 218) 305 dX12_lines_218 rfl ?_ ?_
                    · exact s_drop (hR124 (s119.1, s119.2.2.1) hs120) (And.intro rfl (And.intro rfl (And.intro rfl (And.intro rfl (And.intro rfl (And.intro rfl (And.intro rfl (And.intro rfl trivial))))))))
                    · refine s_aload_n (pc := 221) 0 dX12_lines_221 rfl rfl ?_
                      refine s_geto (pc := 222) F_12 42 rfl o125 dX12_lines_222 kf_X12_98 ?_
                      refine s_rvB (fun r128 => ?_)
                      refine s_iload (pc := 225) dX12_lines_225 rfl ?_
                      refine s_iload (pc := 227) dX12_lines_227 rfl ?_
                      refine s_iload_n (pc := 229) 3 dX12_lines_229 rfl rfl ?_
                      refine s_iconst (pc := 230) 1 dX12_lines_230 kc_1 ?_
                      refine s_iadd (pc := 231) dX12_lines_231 ?_
                      refine s_grd (fun g129 => ?_)
                      refine s_irem (pc := 232) dX12_lines_232 g129 ?_
                      refine s_iconst (pc := 233) 1 dX12_lines_233 kc_1 ?_
                      refine s_isub (pc := 234) dX12_lines_234 ?_
                      refine s_grd (fun o130 => ?_)
                      refine s_grd (fun i131 => ?_)
                      refine s_iast (pc := 235) o130 i131 dX12_lines_235 (fun M132 hM133 => ?_)
                      have h134 := le_wI hM133
                      have o135 := h134.ok o125
                      refine s_iload (pc := 236) dX12_lines_236 rfl ?_
                      refine s_iload_n (pc := 238) 3 dX12_lines_238 rfl rfl ?_
                      refine s_iconst (pc := 239) 1 dX12_lines_239 kc_1 ?_
                      refine s_iadd (pc := 240) dX12_lines_240 ?_
                      refine s_grd (fun g136 => ?_)
                      refine s_idiv (pc := 241) dX12_lines_241 g136 ?_
                      refine s_istore (pc := 242) dX12_lines_242 (nlt rfl) rfl (L' := [some (.ref (gh (xG X) + a0)), none, some (.int p2), some (.int x21.2), some (.int x105), some (.int s109.2.1), some (.int s109.2.2.1), some (.int s109.2.2.2), some (.int (s119.2.1 / (x21.2 + 1))), some (.int s119.2.2.1), some (.int s119.2.2.2)]) rfl ?_
                      refine s_bv (fun x137 : Int32 => [some (.ref (gh (xG X) + a0)), none, some (.int p2), some (.int x21.2), some (.int x105), some (.int s109.2.1), some (.int s109.2.2.1), some (.int s109.2.2.2), some (.int x137), some (.int s119.2.2.1), some (.int s119.2.2.2)]) (fun x137 => ?_) rfl
                      refine s_iload (pc := 244) dX12_lines_244 rfl ?_
                      refine s_aload_n (pc := 246) 0 dX12_lines_246 rfl rfl ?_
                      refine s_geto (pc := 247) F_12 42 rfl o135 dX12_lines_247 kf_X12_98 ?_
                      refine s_rvB (fun r138 => ?_)
                      refine s_iload (pc := 250) dX12_lines_250 rfl ?_
                      refine s_grd (fun o139 => ?_)
                      refine s_grd (fun i140 => ?_)
                      refine s_iald (pc := 252) o139 i140 dX12_lines_252 ?_
                      refine s_iconst (pc := 253) (-1) dX12_lines_253 kc_m1 ?_
                      refine s_join M132 (fun s142 : Int32 => M132) 296 (fun s142 : Int32 => [some (.ref (gh (xG X) + a0)), none, some (.int p2), some (.int x21.2), some (.int x105), some (.int s109.2.1), some (.int s109.2.2.1), some (.int s109.2.2.2), some (.int x137), none, some (.int s119.2.2.2)]) (fun s142 : Int32 => [.int s142, .int s119.2.2.1]) (fun s142 hs143 => ?_) (fun j141 hj144 => ?_)
                      · show S0 X _ M132 296 [some (.ref (gh (xG X) + a0)), none, some (.int p2), some (.int x21.2), some (.int x105), some (.int s109.2.1), some (.int s109.2.2.1), some (.int s109.2.2.2), some (.int x137), none, some (.int s119.2.2.2)] [.int s142, .int s119.2.2.1] _
                        refine s_iadd (pc := 296) dX12_lines_296 ?_
                        refine s_istore (pc := 297) dX12_lines_297 (nlt rfl) rfl (L' := [some (.ref (gh (xG X) + a0)), none, some (.int p2), some (.int x21.2), some (.int x105), some (.int s109.2.1), some (.int s109.2.2.1), some (.int s109.2.2.2), some (.int x137), some (.int (s119.2.2.1 + s142)), some (.int s119.2.2.2)]) rfl ?_
                        refine s_bv (fun x145 : Int32 => [some (.ref (gh (xG X) + a0)), none, some (.int p2), some (.int x21.2), some (.int x105), some (.int s109.2.1), some (.int s109.2.2.1), some (.int s109.2.2.2), some (.int x137), some (.int x145), some (.int s119.2.2.2)]) (fun x145 => ?_) rfl
                        refine s_iinc (pc := 299) dX12_lines_299 rfl (v := s119.2.2.2 + (-1)) (congrArg (fun z : Int32 => s119.2.2.2 + z) kc_m1) (nlt rfl) rfl (L' := [some (.ref (gh (xG X) + a0)), none, some (.int p2), some (.int x21.2), some (.int x105), some (.int s109.2.1), some (.int s109.2.2.1), some (.int s109.2.2.2), some (.int x137), some (.int x145), some (.int (s119.2.2.2 + (-1)))]) rfl ?_
                        refine s_bv (fun x146 : Int32 => [some (.ref (gh (xG X) + a0)), none, some (.int p2), some (.int x21.2), some (.int x105), some (.int s109.2.1), some (.int s109.2.2.1), some (.int s109.2.2.2), some (.int x137), some (.int x145), some (.int x146)]) (fun x146 => ?_) rfl
                        refine s_goto (pc := 302) 216 dX12_lines_302 rfl ?_
                        exact s_drop (hT122 (M132, x137, x145, x146) (hs120.tr h134)) (And.intro rfl (And.intro rfl (And.intro rfl (And.intro rfl (And.intro rfl (And.intro rfl (And.intro rfl (And.intro rfl (And.intro rfl (And.intro rfl trivial))))))))))
                      · refine s_icne (pc := 254) 261 dX12_lines_254 rfl ?_ ?_
                        · refine s_aload_n (pc := 261) 0 dX12_lines_261 rfl rfl ?_
                          refine s_geto (pc := 262) F_12 42 rfl o135 dX12_lines_262 kf_X12_98 ?_
                          refine s_rvB (fun r147 => ?_)
                          refine s_iload (pc := 265) dX12_lines_265 rfl ?_
                          refine s_grd (fun o148 => ?_)
                          refine s_grd (fun i149 => ?_)
                          refine s_iald (pc := 267) o148 i149 dX12_lines_267 ?_
                          refine s_iload (pc := 268) dX12_lines_268 rfl ?_
                          refine s_icne (pc := 270) 278 dX12_lines_270 rfl ?_ ?_
                          · refine s_aload_n (pc := 278) 0 dX12_lines_278 rfl rfl ?_
                            refine s_geto (pc := 279) F_12 41 rfl o135 dX12_lines_279 kf_X12_95 ?_
                            refine s_rvB (fun r150 => ?_)
                            refine s_bipush (pc := 282) 6 dX12_lines_282 kb_6 ?_
                            refine s_aload_n (pc := 284) 0 dX12_lines_284 rfl rfl ?_
                            refine s_geto (pc := 285) F_12 42 rfl o135 dX12_lines_285 kf_X12_98 ?_
                            refine s_rvB (fun r151 => ?_)
                            refine s_iload (pc := 288) dX12_lines_288 rfl ?_
                            refine s_grd (fun o152 => ?_)
                            refine s_grd (fun i153 => ?_)
                            refine s_iald (pc := 290) o152 i153 dX12_lines_290 ?_
                            refine s_imul (pc := 291) dX12_lines_291 ?_
                            refine s_iload (pc := 292) dX12_lines_292 rfl ?_
                            refine s_iadd (pc := 294) dX12_lines_294 ?_
                            refine s_grd (fun o154 => ?_)
                            refine s_grd (fun i155 => ?_)
                            refine s_iald (pc := 295) o154 i155 dX12_lines_295 ?_
                            exact s_drop (hj144 (mI M132 r150 ((6 * (mI M132 r151 s119.2.2.2.toNatClampNeg)) + s119.2.2.2).toNatClampNeg) Le.rf) (And.intro rfl (And.intro rfl (And.intro rfl (And.intro rfl (And.intro rfl (And.intro rfl (And.intro rfl (And.intro rfl (And.intro rfl trivial)))))))))
                          · refine s_ldc (pc := 273) dX12_lines_273 ki_X12_229 ?_
                            refine s_goto (pc := 275) 296 dX12_lines_275 rfl ?_
                            exact s_drop (hj144 1000000 Le.rf) (And.intro rfl (And.intro rfl (And.intro rfl (And.intro rfl (And.intro rfl (And.intro rfl (And.intro rfl (And.intro rfl (And.intro rfl trivial)))))))))
                        · refine s_iconst (pc := 257) 0 dX12_lines_257 kc_0 ?_
                          refine s_goto (pc := 258) 296 dX12_lines_258 rfl ?_
                          exact s_drop (hj144 0 Le.rf) (And.intro rfl (And.intro rfl (And.intro rfl (And.intro rfl (And.intro rfl (And.intro rfl (And.intro rfl (And.intro rfl (And.intro rfl trivial)))))))))
            · show S0 X _ x51 167 [some (.ref (gh (xG X) + a0)), none, some (.int p2), some (.int x21.2), some (.int s99.1), some (.int s99.2), none, none, none, none, none] [] _
              refine s_iload (pc := 167) dX12_lines_167 rfl ?_
              refine s_iload_n (pc := 169) 3 dX12_lines_169 rfl rfl ?_
              refine s_icge (pc := 170) 187 dX12_lines_170 rfl ?_ ?_
              · exact s_drop (hR104 s99.1 Le.rf) (And.intro rfl (And.intro rfl (And.intro rfl (And.intro rfl trivial))))
              · refine s_iload (pc := 173) dX12_lines_173 rfl ?_
                refine s_iload_n (pc := 175) 3 dX12_lines_175 rfl rfl ?_
                refine s_iconst (pc := 176) 1 dX12_lines_176 kc_1 ?_
                refine s_iadd (pc := 177) dX12_lines_177 ?_
                refine s_imul (pc := 178) dX12_lines_178 ?_
                refine s_istore (pc := 179) dX12_lines_179 (nlt rfl) rfl (L' := [some (.ref (gh (xG X) + a0)), none, some (.int p2), some (.int x21.2), some (.int (s99.1 * (x21.2 + 1))), some (.int s99.2), none, none, none, none, none]) rfl ?_
                refine s_bv (fun x107 : Int32 => [some (.ref (gh (xG X) + a0)), none, some (.int p2), some (.int x21.2), some (.int x107), some (.int s99.2), none, none, none, none, none]) (fun x107 => ?_) rfl
                refine s_iinc (pc := 181) dX12_lines_181 rfl (v := s99.2 + 1) (congrArg (fun z : Int32 => s99.2 + z) kc_1) (nlt rfl) rfl (L' := [some (.ref (gh (xG X) + a0)), none, some (.int p2), some (.int x21.2), some (.int x107), some (.int (s99.2 + 1)), none, none, none, none, none]) rfl ?_
                refine s_bv (fun x108 : Int32 => [some (.ref (gh (xG X) + a0)), none, some (.int p2), some (.int x21.2), some (.int x107), some (.int x108), none, none, none, none, none]) (fun x108 => ?_) rfl
                refine s_goto (pc := 184) 167 dX12_lines_184 rfl ?_
                exact s_drop (hT102 (x107, x108) Le.rf) (And.intro rfl (And.intro rfl (And.intro rfl (And.intro rfl (And.intro rfl trivial)))))
          · show S0 X _ s44.1 82 [some (.ref (gh (xG X) + a0)), none, some (.int p2), some (.int x21.2), some (.int s44.2), none, none, none, none, none, none] [] _
            have o50 := hs45.ok o43
            refine s_iload (pc := 82) dX12_lines_82 rfl ?_
            refine s_iload_n (pc := 84) 3 dX12_lines_84 rfl rfl ?_
            refine s_icge (pc := 85) 161 dX12_lines_85 rfl ?_ ?_
            · exact s_drop (hR49 s44.1 hs45) (And.intro rfl (And.intro rfl (And.intro rfl trivial)))
            · refine s_aload_n (pc := 88) 0 dX12_lines_88 rfl rfl ?_
              refine s_aload_n (pc := 89) 0 dX12_lines_89 rfl rfl ?_
              refine s_aload_n (pc := 90) 0 dX12_lines_90 rfl rfl ?_
              refine s_geto (pc := 91) F_12 40 rfl o50 dX12_lines_91 kf_X12_92 ?_
              refine s_rvB (fun r53 => ?_)
              refine s_iload (pc := 94) dX12_lines_94 rfl ?_
              refine s_grd (fun o54 => ?_)
              refine s_grd (fun i55 => ?_)
              refine s_iald (pc := 96) o54 i55 dX12_lines_96 ?_
              refine s_iconst (pc := 97) 2 dX12_lines_97 kc_2 ?_
              refine s_bind (fun q56 hq57 => ?_)
              have hC58 := t_X12_fact (l := xl X) (G := xG X) hq57
              refine s_callV (pc := 98) (As := [.int (mI s44.1 r53 s44.2.toNatClampNeg), .int 2]) (st := [.ref (gh (xG X) + a0)]) (nlt rfl) (q := (RX12, TX12, 59)) rfl rfl o50 cl_X12_fact wi_X12_fact wl_X12_fact km_X12_194 rfl rfl (nle rfl) (nle rfl) (nle rfl) dX12_lines_98 hC58 ?_
              show S0 X _ s44.1 101 [some (.ref (gh (xG X) + a0)), none, some (.int p2), some (.int x21.2), some (.int s44.2), none, none, none, none, none, none] [.int q56, .ref (gh (xG X) + a0)] _
              refine s_bind (fun q59 hq60 => ?_)
              have hC61 := t_X12_placeOf (l := xl X) (G := xG X) (M := s44.1) hq60
              refine s_callS (pc := 101) (As := [.int q56]) (st := [.ref (gh (xG X) + a0)]) cl_X12_placeOf wt_X12_placeOf km_X12_362 rfl rfl (nle rfl) (nle rfl) (nle rfl) dX12_lines_101 hC61 ?_
              show S0 X _ s44.1 104 [some (.ref (gh (xG X) + a0)), none, some (.int p2), some (.int x21.2), some (.int s44.2), none, none, none, none, none, none] [.int q59, .ref (gh (xG X) + a0)] _
              refine s_bind (fun q62 hq63 => ?_)
              have hC64 := t_X12_measures (l := xl X) (G := xG X) hq63
              refine s_callV (pc := 104) (As := [.int q59]) (st := []) (nlt rfl) (q := (RX12, TX12, 59)) rfl rfl o50 cl_X12_measures wi_X12_measures wl_X12_measures km_X12_368 rfl rfl (nle rfl) (nle rfl) (nle rfl) dX12_lines_104 hC64 ?_
              have h65 := hC64.1 X
              have o66 := h65.ok o50
              show S0 X _ q62 107 [some (.ref (gh (xG X) + a0)), none, some (.int p2), some (.int x21.2), some (.int s44.2), none, none, none, none, none, none] [] _
              refine s_iconst (pc := 107) 0 dX12_lines_107 kc_0 ?_
              refine s_istore (pc := 108) dX12_lines_108 (nlt rfl) rfl (L' := [some (.ref (gh (xG X) + a0)), none, some (.int p2), some (.int x21.2), some (.int s44.2), some (.int 0), none, none, none, none, none]) rfl ?_
              refine s_drop (L' := [some (.ref (gh (xG X) + a0)), none, some (.int p2), some (.int x21.2), some (.int s44.2), some (.int 0), none, none, none, none, none]) ?_ (And.intro rfl (And.intro rfl (And.intro rfl (And.intro rfl (And.intro rfl trivial)))))
              refine s_loop1 q62 (fun s67 : Mem × Int32 => s67.1) (fun s67 : Mem × Int32 => [some (.ref (gh (xG X) + a0)), none, some (.int p2), some (.int x21.2), some (.int s44.2), some (.int s67.2), none, none, none, none, none]) (fun x74 : Mem => x74) 155 (fun x74 : Mem => [some (.ref (gh (xG X) + a0)), none, some (.int p2), some (.int x21.2), some (.int s44.2), none, none, none, none, none, none]) (fun x74 hx75 => ?_) (fun T69 R71 hT70 hR72 s67 hs68 => ?_) (q62, 0) Le.rf
              · show S0 X _ x74 155 [some (.ref (gh (xG X) + a0)), none, some (.int p2), some (.int x21.2), some (.int s44.2), none, none, none, none, none, none] [] _
                have o96 := hx75.ok o66
                refine s_iinc (pc := 155) dX12_lines_155 rfl (v := s44.2 + 1) (congrArg (fun z : Int32 => s44.2 + z) kc_1) (nlt rfl) rfl (L' := [some (.ref (gh (xG X) + a0)), none, some (.int p2), some (.int x21.2), some (.int (s44.2 + 1)), none, none, none, none, none, none]) rfl ?_
                refine s_bv (fun x97 : Int32 => [some (.ref (gh (xG X) + a0)), none, some (.int p2), some (.int x21.2), some (.int x97), none, none, none, none, none, none]) (fun x97 => ?_) rfl
                refine s_goto (pc := 158) 82 dX12_lines_158 rfl ?_
                exact s_drop (hT47 (x74, x97) (hs45.tr (h65.tr hx75))) (And.intro rfl (And.intro rfl (And.intro rfl (And.intro rfl trivial))))
              · show S0 X _ s67.1 110 [some (.ref (gh (xG X) + a0)), none, some (.int p2), some (.int x21.2), some (.int s44.2), some (.int s67.2), none, none, none, none, none] [] _
                have o73 := hs68.ok o66
                refine s_iload (pc := 110) dX12_lines_110 rfl ?_
                refine s_iload_n (pc := 112) 3 dX12_lines_112 rfl rfl ?_
                refine s_icge (pc := 113) 155 dX12_lines_113 rfl ?_ ?_
                · exact s_drop (hR72 s67.1 hs68) (And.intro rfl (And.intro rfl (And.intro rfl (And.intro rfl trivial))))
                · refine s_aload_n (pc := 116) 0 dX12_lines_116 rfl rfl ?_
                  refine s_geto (pc := 117) F_12 41 rfl o73 dX12_lines_117 kf_X12_95 ?_
                  refine s_rvB (fun r76 => ?_)
                  refine s_bipush (pc := 120) 6 dX12_lines_120 kb_6 ?_
                  refine s_iload (pc := 122) dX12_lines_122 rfl ?_
                  refine s_imul (pc := 124) dX12_lines_124 ?_
                  refine s_iload (pc := 125) dX12_lines_125 rfl ?_
                  refine s_iadd (pc := 127) dX12_lines_127 ?_
                  refine s_aload_n (pc := 128) 0 dX12_lines_128 rfl rfl ?_
                  refine s_geto (pc := 129) F_12 35 rfl o73 dX12_lines_129 kf_X12_77 ?_
                  refine s_rvB (fun r77 => ?_)
                  refine s_aload_n (pc := 132) 0 dX12_lines_132 rfl rfl ?_
                  refine s_aload_n (pc := 133) 0 dX12_lines_133 rfl rfl ?_
                  refine s_geto (pc := 134) F_12 40 rfl o73 dX12_lines_134 kf_X12_92 ?_
                  refine s_rvB (fun r78 => ?_)
                  refine s_iload (pc := 137) dX12_lines_137 rfl ?_
                  refine s_grd (fun o79 => ?_)
                  refine s_grd (fun i80 => ?_)
                  refine s_iald (pc := 139) o79 i80 dX12_lines_139 ?_
                  refine s_iconst (pc := 140) 2 dX12_lines_140 kc_2 ?_
                  refine s_bind (fun q81 hq82 => ?_)
                  have hC83 := t_X12_fact (l := xl X) (G := xG X) hq82
                  refine s_callV (pc := 141) (As := [.int (mI s67.1 r78 s67.2.toNatClampNeg), .int 2]) (st := [.ref (gh (xG X) + r77), .int ((6 * s44.2) + s67.2), .ref (gh (xG X) + r76)]) (nlt rfl) (q := (RX12, TX12, 59)) rfl rfl o73 cl_X12_fact wi_X12_fact wl_X12_fact km_X12_194 rfl rfl (nle rfl) (nle rfl) (nle rfl) dX12_lines_141 hC83 ?_
                  show S0 X _ s67.1 144 [some (.ref (gh (xG X) + a0)), none, some (.int p2), some (.int x21.2), some (.int s44.2), some (.int s67.2), none, none, none, none, none] [.int q81, .ref (gh (xG X) + r77), .int ((6 * s44.2) + s67.2), .ref (gh (xG X) + r76)] _
                  refine s_bind (fun q84 hq85 => ?_)
                  have hC86 := t_X12_placeOf (l := xl X) (G := xG X) (M := s67.1) hq85
                  refine s_callS (pc := 144) (As := [.int q81]) (st := [.ref (gh (xG X) + r77), .int ((6 * s44.2) + s67.2), .ref (gh (xG X) + r76)]) cl_X12_placeOf wt_X12_placeOf km_X12_362 rfl rfl (nle rfl) (nle rfl) (nle rfl) dX12_lines_144 hC86 ?_
                  show S0 X _ s67.1 147 [some (.ref (gh (xG X) + a0)), none, some (.int p2), some (.int x21.2), some (.int s44.2), some (.int s67.2), none, none, none, none, none] [.int q84, .ref (gh (xG X) + r77), .int ((6 * s44.2) + s67.2), .ref (gh (xG X) + r76)] _
                  refine s_grd (fun o87 => ?_)
                  refine s_grd (fun i88 => ?_)
                  refine s_iald (pc := 147) o87 i88 dX12_lines_147 ?_
                  refine s_grd (fun o89 => ?_)
                  refine s_grd (fun i90 => ?_)
                  refine s_iast (pc := 148) o89 i90 dX12_lines_148 (fun M91 hM92 => ?_)
                  have h93 := le_wI hM92
                  have o94 := h93.ok o73
                  refine s_iinc (pc := 149) dX12_lines_149 rfl (v := s67.2 + 1) (congrArg (fun z : Int32 => s67.2 + z) kc_1) (nlt rfl) rfl (L' := [some (.ref (gh (xG X) + a0)), none, some (.int p2), some (.int x21.2), some (.int s44.2), some (.int (s67.2 + 1)), none, none, none, none, none]) rfl ?_
                  refine s_bv (fun x95 : Int32 => [some (.ref (gh (xG X) + a0)), none, some (.int p2), some (.int x21.2), some (.int s44.2), some (.int x95), none, none, none, none, none]) (fun x95 => ?_) rfl
                  refine s_goto (pc := 152) 110 dX12_lines_152 rfl ?_
                  exact s_drop (hT70 (M91, x95) (hs68.tr h93)) (And.intro rfl (And.intro rfl (And.intro rfl (And.intro rfl (And.intro rfl trivial)))))
        · show S0 X _ s14.1 38 [some (.ref (gh (xG X) + a0)), some (.int p1), some (.int p2), some (.int s14.2.1), some (.int s14.2.2), none, none, none, none, none, none] [] _
          have o20 := hs15.ok o1
          refine s_iload (pc := 38) dX12_lines_38 rfl ?_
          refine s_aload_n (pc := 40) 0 dX12_lines_40 rfl rfl ?_
          refine s_geto (pc := 41) F_12 3 rfl o20 dX12_lines_41 kf_X12_20 ?_
          refine s_rvB (fun r23 => ?_)
          refine s_bipush (pc := 44) 56 dX12_lines_44 kb_56 ?_
          refine s_grd (fun o24 => ?_)
          refine s_grd (fun i25 => ?_)
          refine s_iald (pc := 46) o24 i25 dX12_lines_46 ?_
          refine s_icge (pc := 47) 79 dX12_lines_47 rfl ?_ ?_
          · exact s_drop (hR19 (s14.1, s14.2.1) hs15) (And.intro rfl (And.intro rfl (And.intro rfl trivial)))
          · refine s_iload_n (pc := 50) 1 dX12_lines_50 rfl rfl ?_
            refine s_iload (pc := 51) dX12_lines_51 rfl ?_
            refine s_bind (fun q26 hq27 => ?_)
            have hC28 := t_X12_isOne (l := xl X) (G := xG X) (M := s14.1) hq27
            refine s_callS (pc := 53) (As := [.int p1, .int s14.2.2]) (st := []) cl_X12_isOne wt_X12_isOne km_X12_390 rfl rfl (nle rfl) (nle rfl) (nle rfl) dX12_lines_53 hC28 ?_
            show S0 X _ s14.1 56 [some (.ref (gh (xG X) + a0)), some (.int p1), some (.int p2), some (.int s14.2.1), some (.int s14.2.2), none, none, none, none, none, none] [.int q26] _
            refine s_join s14.1 (fun s30 : Mem × Int32 => s30.1) 73 (fun s30 : Mem × Int32 => [some (.ref (gh (xG X) + a0)), some (.int p1), some (.int p2), some (.int s30.2), some (.int s14.2.2), none, none, none, none, none, none]) (fun s30 : Mem × Int32 => []) (fun s30 hs31 => ?_) (fun j29 hj32 => ?_)
            · show S0 X _ s30.1 73 [some (.ref (gh (xG X) + a0)), some (.int p1), some (.int p2), some (.int s30.2), some (.int s14.2.2), none, none, none, none, none, none] [] _
              have o33 := hs31.ok o20
              refine s_iinc (pc := 73) dX12_lines_73 rfl (v := s14.2.2 + 1) (congrArg (fun z : Int32 => s14.2.2 + z) kc_1) (nlt rfl) rfl (L' := [some (.ref (gh (xG X) + a0)), some (.int p1), some (.int p2), some (.int s30.2), some (.int (s14.2.2 + 1)), none, none, none, none, none, none]) rfl ?_
              refine s_bv (fun x34 : Int32 => [some (.ref (gh (xG X) + a0)), some (.int p1), some (.int p2), some (.int s30.2), some (.int x34), none, none, none, none, none, none]) (fun x34 => ?_) rfl
              refine s_goto (pc := 76) 38 dX12_lines_76 rfl ?_
              exact s_drop (hT17 (s30.1, s30.2, x34) (hs15.tr hs31)) (And.intro rfl (And.intro rfl (And.intro rfl (And.intro rfl (And.intro rfl trivial)))))
            · refine s_ifne (pc := 56) 62 dX12_lines_56 rfl ?_ ?_
              · refine s_aload_n (pc := 62) 0 dX12_lines_62 rfl rfl ?_
                refine s_geto (pc := 63) F_12 40 rfl o20 dX12_lines_63 kf_X12_92 ?_
                refine s_rvB (fun r35 => ?_)
                refine s_iload_n (pc := 66) 3 dX12_lines_66 rfl rfl ?_
                refine s_iload (pc := 67) dX12_lines_67 rfl ?_
                refine s_grd (fun o36 => ?_)
                refine s_grd (fun i37 => ?_)
                refine s_iast (pc := 69) o36 i37 dX12_lines_69 (fun M38 hM39 => ?_)
                have h40 := le_wI hM39
                have o41 := h40.ok o20
                refine s_iinc (pc := 70) dX12_lines_70 rfl (v := s14.2.1 + 1) (congrArg (fun z : Int32 => s14.2.1 + z) kc_1) (nlt rfl) rfl (L' := [some (.ref (gh (xG X) + a0)), some (.int p1), some (.int p2), some (.int (s14.2.1 + 1)), some (.int s14.2.2), none, none, none, none, none, none]) rfl ?_
                refine s_bv (fun x42 : Int32 => [some (.ref (gh (xG X) + a0)), some (.int p1), some (.int p2), some (.int x42), some (.int s14.2.2), none, none, none, none, none, none]) (fun x42 => ?_) rfl
                exact s_drop (hj32 (M38, x42) h40) (And.intro rfl (And.intro rfl (And.intro rfl (And.intro rfl (And.intro rfl trivial)))))
              · refine s_goto (pc := 59) 73 dX12_lines_59 rfl ?_
                exact s_drop (hj32 (s14.1, s14.2.1) Le.rf) (And.intro rfl (And.intro rfl (And.intro rfl (And.intro rfl (And.intro rfl trivial)))))
      · refine s_iconst (pc := 31) (-1) dX12_lines_31 kc_m1 ?_
        exact s_iret rfl dX12_lines_32
