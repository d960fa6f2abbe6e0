set_option maxRecDepth 100000 in
set_option maxHeartbeats 8000000 in
noncomputable def f_X12_first (M : Mem) (a0 : Nat) (p1 : Int32) (p2 : Int32) : Option (Mem × Int32) :=
  grd (okO M 12 a0) (Option.bind (f_X12_areHouses M a0 p1) (fun q2 => if q2 = 0 then (some (M, (-1))) else (Option.bind (f_X12_lies p2 0 2) (fun q5 => if q5 = 0 then (some (M, (-1))) else (Option.bind (f_X12_laysNext M a0) (fun q8 => Option.bind (loopO (σ := Mem × Int32) (ρ := Mem) (fun s13 => if 9331 ≤ s13.2 then (some (.inr s13.1)) else (Option.bind (mR s13.1 a0 39) (fun r22 => grd (okO s13.1 14 r22) (grd (vp_in s13.2 (mL s13.1 r22)) (bv (wI s13.1 r22 s13.2.toNatClampNeg 0) (fun M25 => bv (s13.2 + 1 : Int32) (fun x29 => some (.inl (M25, x29))))))))) (q8, 0)) (fun (x20 : Mem) => Option.bind (loopO (σ := Mem × Int32) (ρ := Mem) (fun s31 => Option.bind (mR s31.1 a0 3) (fun r40 => grd (okO s31.1 14 r40) (grd (vp_in 56 (mL s31.1 r40)) (if (mI s31.1 r40 (56 : Int32).toNatClampNeg) ≤ s31.2 then (some (.inr s31.1)) else (Option.bind (f_X12_isOne p1 s31.2) (fun q43 => bv (fun (s47 : Mem) => bv (s31.2 + 1 : Int32) (fun x51 => some (.inl (s47, x51)))) (fun j46 => if q43 = 0 then (j46 s31.1) else (Option.bind (f_X12_fact s31.1 a0 s31.2 2) (fun q52 => Option.bind (f_X12_placeOf q52) (fun q55 => Option.bind (f_X12_measuresTo s31.1 a0 q55) (fun q58 => Option.bind (loopO (σ := Mem × Int32) (ρ := Mem) (fun s63 => if 9331 ≤ s63.2 then (some (.inr s63.1)) else (Option.bind (mR s63.1 a0 39) (fun r72 => Option.bind (mR s63.1 a0 39) (fun r73 => grd (okO s63.1 14 r73) (grd (vp_in s63.2 (mL s63.1 r73)) (bv (fun (s77 : Int32) => grd (okO s63.1 14 r72) (grd (vp_in s63.2 (mL s63.1 r72)) (bv (wI s63.1 r72 s63.2.toNatClampNeg s77) (fun M82 => bv (s63.2 + 1 : Int32) (fun x86 => some (.inl (M82, x86))))))) (fun j76 => bv (fun (s88 : Unit) => j76 1000000) (fun j87 => if 1000000 ≤ (mI s63.1 r73 s63.2.toNatClampNeg) then (j87 ()) else (Option.bind (mR s63.1 a0 35) (fun r91 => grd (okO s63.1 14 r91) (grd (vp_in s63.2 (mL s63.1 r91)) (if (mI s63.1 r91 s63.2.toNatClampNeg) < 1000000 then (Option.bind (mR s63.1 a0 39) (fun r94 => grd (okO s63.1 14 r94) (grd (vp_in s63.2 (mL s63.1 r94)) (Option.bind (mR s63.1 a0 35) (fun r97 => grd (okO s63.1 14 r97) (grd (vp_in s63.2 (mL s63.1 r97)) (j76 ((mI s63.1 r94 s63.2.toNatClampNeg) + (mI s63.1 r97 s63.2.toNatClampNeg))))))))) else (j87 ()))))))))))))) (q58, 0)) (fun (x70 : Mem) => j46 x70)))))))))))) (x20, 0)) (fun (x38 : Mem) => Option.bind (loopO (σ := Int32 × Int32 × Int32) (ρ := Int32 × Int32) (fun s102 => if 9331 ≤ s102.2.2 then (some (.inr (s102.1, s102.2.1))) else (Option.bind (mR x38 a0 39) (fun r110 => grd (okO x38 14 r110) (grd (vp_in s102.2.2 (mL x38 r110)) (bv (fun (s114 : Int32 × Int32) => bv (s102.2.2 + 1 : Int32) (fun x117 => some (.inl (s114.1, s114.2, x117)))) (fun j113 => if 1000000 ≤ (mI x38 r110 s102.2.2.toNatClampNeg) then (j113 (s102.1, s102.2.1)) else (bv (fun (s119 : Unit) => bv (fun (s123 : Int32 × Int32) => bv (s123.2 + 1 : Int32) (fun x126 => j113 (s123.1, x126))) (fun j122 => bv (fun (s128 : Unit) => j122 (s102.2.2, 0)) (fun j127 => if s102.1 = (-1) then (j127 ()) else (Option.bind (mR x38 a0 39) (fun r131 => grd (okO x38 14 r131) (grd (vp_in s102.2.2 (mL x38 r131)) (Option.bind (mR x38 a0 39) (fun r134 => grd (okO x38 14 r134) (grd (vp_in s102.1 (mL x38 r134)) (if (mI x38 r134 s102.1.toNatClampNeg) ≤ (mI x38 r131 s102.2.2.toNatClampNeg) then (j122 (s102.1, s102.2.1)) else (j127 ()))))))))))) (fun j118 => if s102.1 = (-1) then (j118 ()) else (Option.bind (mR x38 a0 39) (fun r137 => grd (okO x38 14 r137) (grd (vp_in s102.2.2 (mL x38 r137)) (Option.bind (mR x38 a0 39) (fun r140 => grd (okO x38 14 r140) (grd (vp_in s102.1 (mL x38 r140)) (if (mI x38 r137 s102.2.2.toNatClampNeg) ≤ (mI x38 r140 s102.1.toNatClampNeg) then (j118 ()) else (j113 (s102.1, s102.2.1))))))))))))))))) ((-1), 0, 0)) (fun (x108 : Int32 × Int32) => if x108.1 = (-1) then (some (x38, (-1))) else (if p2 = 0 then (Option.bind (mR x38 a0 39) (fun r146 => grd (okO x38 14 r146) (grd (vp_in x108.1 (mL x38 r146)) (some (x38, mI x38 r146 x108.1.toNatClampNeg))))) else (if p2 = 1 then (some (x38, x108.2)) else (Option.bind (f_X12_dishAt x108.1) (fun q143 => some (x38, q143))))))))))))))
abbrev Y_X12_first : Sta := (RX12, "first", cX12_first, 6, (some .int), 209)
set_option maxRecDepth 100000 in
set_option maxHeartbeats 8000000 in
theorem t_X12_first {l : Launch} {G : Gh} {M : Mem} {a0 : Nat} {p1 : Int32} {p2 : Int32} {q : Mem × Int32} (h : f_X12_first M a0 p1 p2 = some q) : Ctr l G yX12_first Y_X12_first M [.ref (gh G + a0), .int p1, .int p2] q.1 (some (.int q.2)) := by
  refine Ctr.of (Y := Y_X12_first) (L := [some (.ref (gh G + a0)), some (.int p1), some (.int p2), none, none, none]) (t := Option.bind (f_X12_first M a0 p1 p2) (fun q => some (q.1, some (.int q.2)))) (by decide) rfl rfl (nle rfl) (Lof_in 3 _ rfl) (fun X hG hl => ?_) (by rw [h]; rfl)
  subst hG
  subst hl
  unfold f_X12_first
  refine s_aload_n (pc := 0) 0 dX12_first_0 rfl rfl ?_
  refine s_iload_n (pc := 1) 1 dX12_first_1 rfl rfl ?_
  refine s_grd (fun o1 => ?_)
  refine s_bind (fun q2 hq3 => ?_)
  have hC4 := t_X12_areHouses (l := xl X) (G := xG X) hq3
  refine s_callV (pc := 2) (As := [.int p1]) (st := []) (nlt rfl) (q := (RX12, TX12, 59)) rfl rfl o1 cl_X12_areHouses wi_X12_areHouses wl_X12_areHouses km_X12_387 rfl rfl (nle rfl) (nle rfl) (nle rfl) dX12_first_2 hC4 ?_
  show S0 X _ M 5 [some (.ref (gh (xG X) + a0)), some (.int p1), some (.int p2), none, none, none] [.int q2] _
  refine s_ifeq (pc := 5) 17 dX12_first_5 rfl ?_ ?_
  · refine s_iconst (pc := 17) (-1) dX12_first_17 kc_m1 ?_
    exact s_iret rfl dX12_first_18
  · refine s_iload_n (pc := 8) 2 dX12_first_8 rfl rfl ?_
    refine s_iconst (pc := 9) 0 dX12_first_9 kc_0 ?_
    refine s_iconst (pc := 10) 2 dX12_first_10 kc_2 ?_
    refine s_bind (fun q5 hq6 => ?_)
    have hC7 := t_X12_lies (l := xl X) (G := xG X) (M := M) hq6
    refine s_callS (pc := 11) (As := [.int p2, .int 0, .int 2]) (st := []) cl_X12_lies wt_X12_lies km_X12_123 rfl rfl (nle rfl) (nle rfl) (nle rfl) dX12_first_11 hC7 ?_
    show S0 X _ M 14 [some (.ref (gh (xG X) + a0)), some (.int p1), some (.int p2), none, none, none] [.int q5] _
    refine s_ifne (pc := 14) 19 dX12_first_14 rfl ?_ ?_
    · refine s_aload_n (pc := 19) 0 dX12_first_19 rfl rfl ?_
      refine s_bind (fun q8 hq9 => ?_)
      have hC10 := t_X12_laysNext (l := xl X) (G := xG X) hq9
      refine s_callV (pc := 20) (As := []) (st := []) (nlt rfl) (q := (RX12, TX12, 59)) rfl rfl o1 cl_X12_laysNext wi_X12_laysNext wl_X12_laysNext km_X12_365 rfl rfl (nle rfl) (nle rfl) (nle rfl) dX12_first_20 hC10 ?_
      have h11 := hC10.1 X
      have o12 := h11.ok o1
      show S0 X _ q8 23 [some (.ref (gh (xG X) + a0)), some (.int p1), some (.int p2), none, none, none] [] _
      refine s_iconst (pc := 23) 0 dX12_first_23 kc_0 ?_
      refine s_istore_n (pc := 24) 3 dX12_first_24 rfl (nlt rfl) rfl (L' := [some (.ref (gh (xG X) + a0)), some (.int p1), some (.int p2), some (.int 0), none, none]) rfl ?_
      refine s_drop (L' := [some (.ref (gh (xG X) + a0)), some (.int p1), some (.int p2), some (.int 0), none, none]) ?_ (And.intro rfl (And.intro rfl (And.intro rfl (And.intro rfl trivial))))
      refine s_loop1 q8 (fun s13 : Mem × Int32 => s13.1) (fun s13 : Mem × Int32 => [some (.ref (gh (xG X) + a0)), some (.int p1), some (.int p2), some (.int s13.2), none, none]) (fun x20 : Mem => x20) 45 (fun x20 : Mem => [some (.ref (gh (xG X) + a0)), some (.int p1), some (.int p2), none, none, none]) (fun x20 hx21 => ?_) (fun T15 R17 hT16 hR18 s13 hs14 => ?_) (q8, 0) Le.rf
      · show S0 X _ x20 45 [some (.ref (gh (xG X) + a0)), some (.int p1), some (.int p2), none, none, none] [] _
        have o30 := hx21.ok o12
        refine s_iconst (pc := 45) 0 dX12_first_45 kc_0 ?_
        refine s_istore_n (pc := 46) 3 dX12_first_46 rfl (nlt rfl) rfl (L' := [some (.ref (gh (xG X) + a0)), some (.int p1), some (.int p2), some (.int 0), none, none]) rfl ?_
        refine s_drop (L' := [some (.ref (gh (xG X) + a0)), some (.int p1), some (.int p2), some (.int 0), none, none]) ?_ (And.intro rfl (And.intro rfl (And.intro rfl (And.intro rfl trivial))))
        refine s_loop1 x20 (fun s31 : Mem × Int32 => s31.1) (fun s31 : Mem × Int32 => [some (.ref (gh (xG X) + a0)), some (.int p1), some (.int p2), some (.int s31.2), none, none]) (fun x38 : Mem => x38) 156 (fun x38 : Mem => [some (.ref (gh (xG X) + a0)), none, some (.int p2), none, none, none]) (fun x38 hx39 => ?_) (fun T33 R35 hT34 hR36 s31 hs32 => ?_) (x20, 0) Le.rf
        · show S0 X _ x38 156 [some (.ref (gh (xG X) + a0)), none, some (.int p2), none, none, none] [] _
          have o101 := hx39.ok o30
          refine s_iconst (pc := 156) (-1) dX12_first_156 kc_m1 ?_
          refine s_istore_n (pc := 157) 3 dX12_first_157 rfl (nlt rfl) rfl (L' := [some (.ref (gh (xG X) + a0)), none, some (.int p2), some (.int (-1)), none, none]) rfl ?_
          refine s_iconst (pc := 158) 0 dX12_first_158 kc_0 ?_
          refine s_istore (pc := 159) dX12_first_159 (nlt rfl) rfl (L' := [some (.ref (gh (xG X) + a0)), none, some (.int p2), some (.int (-1)), some (.int 0), none]) rfl ?_
          refine s_iconst (pc := 161) 0 dX12_first_161 kc_0 ?_
          refine s_istore (pc := 162) dX12_first_162 (nlt rfl) rfl (L' := [some (.ref (gh (xG X) + a0)), none, some (.int p2), some (.int (-1)), some (.int 0), some (.int 0)]) rfl ?_
          refine s_drop (L' := [some (.ref (gh (xG X) + a0)), none, some (.int p2), some (.int (-1)), some (.int 0), some (.int 0)]) ?_ (And.intro rfl (And.intro rfl (And.intro rfl (And.intro rfl (And.intro rfl trivial)))))
          refine s_loop1 x38 (fun s102 : Int32 × Int32 × Int32 => x38) (fun s102 : Int32 × Int32 × Int32 => [some (.ref (gh (xG X) + a0)), none, some (.int p2), some (.int s102.1), some (.int s102.2.1), some (.int s102.2.2)]) (fun x108 : Int32 × Int32 => x38) 244 (fun x108 : Int32 × Int32 => [some (.ref (gh (xG X) + a0)), none, some (.int p2), some (.int x108.1), some (.int x108.2), none]) (fun x108 hx109 => ?_) (fun T104 R106 hT105 hR107 s102 hs103 => ?_) ((-1), 0, 0) Le.rf
          · show S0 X _ x38 244 [some (.ref (gh (xG X) + a0)), none, some (.int p2), some (.int x108.1), some (.int x108.2), none] [] _
            refine s_iload_n (pc := 244) 3 dX12_first_244 rfl rfl ?_
            refine s_iconst (pc := 245) (-1) dX12_first_245 kc_m1 ?_
            refine s_icne (pc := 246) 253 dX12_first_246 rfl ?_ ?_
            · refine s_iload_n (pc := 253) 2 dX12_first_253 rfl rfl ?_
              refine s_ifne (pc := 254) 266 dX12_first_254 rfl ?_ ?_
              · refine s_iload_n (pc := 266) 2 dX12_first_266 rfl rfl ?_
                refine s_iconst (pc := 267) 1 dX12_first_267 kc_1 ?_
                refine s_icne (pc := 268) 276 dX12_first_268 rfl ?_ ?_
                · refine s_iload_n (pc := 276) 3 dX12_first_276 rfl rfl ?_
                  refine s_bind (fun q143 hq144 => ?_)
                  have hC145 := t_X12_dishAt (l := xl X) (G := xG X) (M := x38) hq144
                  refine s_callS (pc := 277) (As := [.int x108.1]) (st := []) cl_X12_dishAt wt_X12_dishAt km_X12_359 rfl rfl (nle rfl) (nle rfl) (nle rfl) dX12_first_277 hC145 ?_
                  show S0 X _ x38 280 [some (.ref (gh (xG X) + a0)), none, some (.int p2), some (.int x108.1), some (.int x108.2), none] [.int q143] _
                  exact s_iret rfl dX12_first_280
                · refine s_iload (pc := 271) dX12_first_271 rfl ?_
                  refine s_goto (pc := 273) 280 dX12_first_273 rfl ?_
                  exact s_iret rfl dX12_first_280
              · refine s_aload_n (pc := 257) 0 dX12_first_257 rfl rfl ?_
                refine s_geto (pc := 258) F_12 39 rfl o101 dX12_first_258 kf_X12_89 ?_
                refine s_rvB (fun r146 => ?_)
                refine s_iload_n (pc := 261) 3 dX12_first_261 rfl rfl ?_
                refine s_grd (fun o147 => ?_)
                refine s_grd (fun i148 => ?_)
                refine s_iald (pc := 262) o147 i148 dX12_first_262 ?_
                refine s_goto (pc := 263) 280 dX12_first_263 rfl ?_
                exact s_iret rfl dX12_first_280
            · refine s_iconst (pc := 249) (-1) dX12_first_249 kc_m1 ?_
              refine s_goto (pc := 250) 280 dX12_first_250 rfl ?_
              exact s_iret rfl dX12_first_280
          · show S0 X _ x38 164 [some (.ref (gh (xG X) + a0)), none, some (.int p2), some (.int s102.1), some (.int s102.2.1), some (.int s102.2.2)] [] _
            refine s_iload (pc := 164) dX12_first_164 rfl ?_
            refine s_sipush (pc := 166) 9331 dX12_first_166 ks_9331 ?_
            refine s_icge (pc := 169) 244 dX12_first_169 rfl ?_ ?_
            · exact s_drop (hR107 (s102.1, s102.2.1) Le.rf) (And.intro rfl (And.intro rfl (And.intro rfl (And.intro rfl trivial))))
            · refine s_aload_n (pc := 172) 0 dX12_first_172 rfl rfl ?_
              refine s_geto (pc := 173) F_12 39 rfl o101 dX12_first_173 kf_X12_89 ?_
              refine s_rvB (fun r110 => ?_)
              refine s_iload (pc := 176) dX12_first_176 rfl ?_
              refine s_grd (fun o111 => ?_)
              refine s_grd (fun i112 => ?_)
              refine s_iald (pc := 178) o111 i112 dX12_first_178 ?_
              refine s_ldc (pc := 179) dX12_first_179 ki_X12_229 ?_
              refine s_join x38 (fun s114 : Int32 × Int32 => x38) 238 (fun s114 : Int32 × Int32 => [some (.ref (gh (xG X) + a0)), none, some (.int p2), some (.int s114.1), some (.int s114.2), some (.int s102.2.2)]) (fun s114 : Int32 × Int32 => []) (fun s114 hs115 => ?_) (fun j113 hj116 => ?_)
              · show S0 X _ x38 238 [some (.ref (gh (xG X) + a0)), none, some (.int p2), some (.int s114.1), some (.int s114.2), some (.int s102.2.2)] [] _
                refine s_iinc (pc := 238) dX12_first_238 rfl (v := s102.2.2 + 1) (congrArg (fun z : Int32 => s102.2.2 + z) kc_1) (nlt rfl) rfl (L' := [some (.ref (gh (xG X) + a0)), none, some (.int p2), some (.int s114.1), some (.int s114.2), some (.int (s102.2.2 + 1))]) rfl ?_
                refine s_bv (fun x117 : Int32 => [some (.ref (gh (xG X) + a0)), none, some (.int p2), some (.int s114.1), some (.int s114.2), some (.int x117)]) (fun x117 => ?_) rfl
                refine s_goto (pc := 241) 164 dX12_first_241 rfl ?_
                exact s_drop (hT105 (s114.1, s114.2, x117) Le.rf) (And.intro rfl (And.intro rfl (And.intro rfl (And.intro rfl (And.intro rfl trivial)))))
              · refine s_icge (pc := 181) 238 dX12_first_181 rfl ?_ ?_
                · exact s_drop (hj116 (s102.1, s102.2.1) Le.rf) (And.intro rfl (And.intro rfl (And.intro rfl (And.intro rfl (And.intro rfl trivial)))))
                · refine s_iload_n (pc := 184) 3 dX12_first_184 rfl rfl ?_
                  refine s_iconst (pc := 185) (-1) dX12_first_185 kc_m1 ?_
                  refine s_join x38 (fun s119 : Unit => x38) 208 (fun s119 : Unit => [some (.ref (gh (xG X) + a0)), none, some (.int p2), some (.int s102.1), some (.int s102.2.1), some (.int s102.2.2)]) (fun s119 : Unit => []) (fun s119 hs120 => ?_) (fun j118 hj121 => ?_)
                  · show S0 X _ x38 208 [some (.ref (gh (xG X) + a0)), none, some (.int p2), some (.int s102.1), some (.int s102.2.1), some (.int s102.2.2)] [] _
                    refine s_iload_n (pc := 208) 3 dX12_first_208 rfl rfl ?_
                    refine s_iconst (pc := 209) (-1) dX12_first_209 kc_m1 ?_
                    refine s_join x38 (fun s123 : Int32 × Int32 => x38) 235 (fun s123 : Int32 × Int32 => [some (.ref (gh (xG X) + a0)), none, some (.int p2), some (.int s123.1), some (.int s123.2), some (.int s102.2.2)]) (fun s123 : Int32 × Int32 => []) (fun s123 hs124 => ?_) (fun j122 hj125 => ?_)
                    · show S0 X _ x38 235 [some (.ref (gh (xG X) + a0)), none, some (.int p2), some (.int s123.1), some (.int s123.2), some (.int s102.2.2)] [] _
                      refine s_iinc (pc := 235) dX12_first_235 rfl (v := s123.2 + 1) (congrArg (fun z : Int32 => s123.2 + z) kc_1) (nlt rfl) rfl (L' := [some (.ref (gh (xG X) + a0)), none, some (.int p2), some (.int s123.1), some (.int (s123.2 + 1)), some (.int s102.2.2)]) rfl ?_
                      refine s_bv (fun x126 : Int32 => [some (.ref (gh (xG X) + a0)), none, some (.int p2), some (.int s123.1), some (.int x126), some (.int s102.2.2)]) (fun x126 => ?_) rfl
                      exact s_drop (hj116 (s123.1, x126) Le.rf) (And.intro rfl (And.intro rfl (And.intro rfl (And.intro rfl (And.intro rfl trivial)))))
                    · refine s_join x38 (fun s128 : Unit => x38) 229 (fun s128 : Unit => [some (.ref (gh (xG X) + a0)), none, some (.int p2), none, none, some (.int s102.2.2)]) (fun s128 : Unit => []) (fun s128 hs129 => ?_) (fun j127 hj130 => ?_)
                      · show S0 X _ x38 229 [some (.ref (gh (xG X) + a0)), none, some (.int p2), none, none, some (.int s102.2.2)] [] _
                        refine s_iload (pc := 229) dX12_first_229 rfl ?_
                        refine s_istore_n (pc := 231) 3 dX12_first_231 rfl (nlt rfl) rfl (L' := [some (.ref (gh (xG X) + a0)), none, some (.int p2), some (.int s102.2.2), none, some (.int s102.2.2)]) rfl ?_
                        refine s_iconst (pc := 232) 0 dX12_first_232 kc_0 ?_
                        refine s_istore (pc := 233) dX12_first_233 (nlt rfl) rfl (L' := [some (.ref (gh (xG X) + a0)), none, some (.int p2), some (.int s102.2.2), some (.int 0), some (.int s102.2.2)]) rfl ?_
                        exact s_drop (hj125 (s102.2.2, 0) Le.rf) (And.intro rfl (And.intro rfl (And.intro rfl (And.intro rfl (And.intro rfl trivial)))))
                      · refine s_iceq (pc := 210) 229 dX12_first_210 rfl ?_ ?_
                        · exact s_drop (hj130 () Le.rf) (And.intro rfl (And.intro rfl (And.intro rfl trivial)))
                        · refine s_aload_n (pc := 213) 0 dX12_first_213 rfl rfl ?_
                          refine s_geto (pc := 214) F_12 39 rfl o101 dX12_first_214 kf_X12_89 ?_
                          refine s_rvB (fun r131 => ?_)
                          refine s_iload (pc := 217) dX12_first_217 rfl ?_
                          refine s_grd (fun o132 => ?_)
                          refine s_grd (fun i133 => ?_)
                          refine s_iald (pc := 219) o132 i133 dX12_first_219 ?_
                          refine s_aload_n (pc := 220) 0 dX12_first_220 rfl rfl ?_
                          refine s_geto (pc := 221) F_12 39 rfl o101 dX12_first_221 kf_X12_89 ?_
                          refine s_rvB (fun r134 => ?_)
                          refine s_iload_n (pc := 224) 3 dX12_first_224 rfl rfl ?_
                          refine s_grd (fun o135 => ?_)
                          refine s_grd (fun i136 => ?_)
                          refine s_iald (pc := 225) o135 i136 dX12_first_225 ?_
                          refine s_icge (pc := 226) 235 dX12_first_226 rfl ?_ ?_
                          · exact s_drop (hj125 (s102.1, s102.2.1) Le.rf) (And.intro rfl (And.intro rfl (And.intro rfl (And.intro rfl (And.intro rfl trivial)))))
                          · exact s_drop (hj130 () Le.rf) (And.intro rfl (And.intro rfl (And.intro rfl trivial)))
                  · refine s_iceq (pc := 186) 208 dX12_first_186 rfl ?_ ?_
                    · exact s_drop (hj121 () Le.rf) (And.intro rfl (And.intro rfl (And.intro rfl (And.intro rfl (And.intro rfl trivial)))))
                    · refine s_aload_n (pc := 189) 0 dX12_first_189 rfl rfl ?_
                      refine s_geto (pc := 190) F_12 39 rfl o101 dX12_first_190 kf_X12_89 ?_
                      refine s_rvB (fun r137 => ?_)
                      refine s_iload (pc := 193) dX12_first_193 rfl ?_
                      refine s_grd (fun o138 => ?_)
                      refine s_grd (fun i139 => ?_)
                      refine s_iald (pc := 195) o138 i139 dX12_first_195 ?_
                      refine s_aload_n (pc := 196) 0 dX12_first_196 rfl rfl ?_
                      refine s_geto (pc := 197) F_12 39 rfl o101 dX12_first_197 kf_X12_89 ?_
                      refine s_rvB (fun r140 => ?_)
                      refine s_iload_n (pc := 200) 3 dX12_first_200 rfl rfl ?_
                      refine s_grd (fun o141 => ?_)
                      refine s_grd (fun i142 => ?_)
                      refine s_iald (pc := 201) o141 i142 dX12_first_201 ?_
                      refine s_icle (pc := 202) 208 dX12_first_202 rfl ?_ ?_
                      · exact s_drop (hj121 () Le.rf) (And.intro rfl (And.intro rfl (And.intro rfl (And.intro rfl (And.intro rfl trivial)))))
                      · refine s_goto (pc := 205) 238 dX12_first_205 rfl ?_
                        exact s_drop (hj116 (s102.1, s102.2.1) Le.rf) (And.intro rfl (And.intro rfl (And.intro rfl (And.intro rfl (And.intro rfl trivial)))))
        · show S0 X _ s31.1 47 [some (.ref (gh (xG X) + a0)), some (.int p1), some (.int p2), some (.int s31.2), none, none] [] _
          have o37 := hs32.ok o30
          refine s_iload_n (pc := 47) 3 dX12_first_47 rfl rfl ?_
          refine s_aload_n (pc := 48) 0 dX12_first_48 rfl rfl ?_
          refine s_geto (pc := 49) F_12 3 rfl o37 dX12_first_49 kf_X12_20 ?_
          refine s_rvB (fun r40 => ?_)
          refine s_bipush (pc := 52) 56 dX12_first_52 kb_56 ?_
          refine s_grd (fun o41 => ?_)
          refine s_grd (fun i42 => ?_)
          refine s_iald (pc := 54) o41 i42 dX12_first_54 ?_
          refine s_icge (pc := 55) 156 dX12_first_55 rfl ?_ ?_
          · exact s_drop (hR36 s31.1 hs32) (And.intro rfl (And.intro rfl trivial))
          · refine s_iload_n (pc := 58) 1 dX12_first_58 rfl rfl ?_
            refine s_iload_n (pc := 59) 3 dX12_first_59 rfl rfl ?_
            refine s_bind (fun q43 hq44 => ?_)
            have hC45 := t_X12_isOne (l := xl X) (G := xG X) (M := s31.1) hq44
            refine s_callS (pc := 60) (As := [.int p1, .int s31.2]) (st := []) cl_X12_isOne wt_X12_isOne km_X12_390 rfl rfl (nle rfl) (nle rfl) (nle rfl) dX12_first_60 hC45 ?_
            show S0 X _ s31.1 63 [some (.ref (gh (xG X) + a0)), some (.int p1), some (.int p2), some (.int s31.2), none, none] [.int q43] _
            refine s_join s31.1 (fun s47 : Mem => s47) 150 (fun s47 : Mem => [some (.ref (gh (xG X) + a0)), some (.int p1), some (.int p2), some (.int s31.2), none, none]) (fun s47 : Mem => []) (fun s47 hs48 => ?_) (fun j46 hj49 => ?_)
            · show S0 X _ s47 150 [some (.ref (gh (xG X) + a0)), some (.int p1), some (.int p2), some (.int s31.2), none, none] [] _
              have o50 := hs48.ok o37
              refine s_iinc (pc := 150) dX12_first_150 rfl (v := s31.2 + 1) (congrArg (fun z : Int32 => s31.2 + z) kc_1) (nlt rfl) rfl (L' := [some (.ref (gh (xG X) + a0)), some (.int p1), some (.int p2), some (.int (s31.2 + 1)), none, none]) rfl ?_
              refine s_bv (fun x51 : Int32 => [some (.ref (gh (xG X) + a0)), some (.int p1), some (.int p2), some (.int x51), none, none]) (fun x51 => ?_) rfl
              refine s_goto (pc := 153) 47 dX12_first_153 rfl ?_
              exact s_drop (hT34 (s47, x51) (hs32.tr hs48)) (And.intro rfl (And.intro rfl (And.intro rfl (And.intro rfl trivial))))
            · refine s_ifne (pc := 63) 69 dX12_first_63 rfl ?_ ?_
              · refine s_aload_n (pc := 69) 0 dX12_first_69 rfl rfl ?_
                refine s_aload_n (pc := 70) 0 dX12_first_70 rfl rfl ?_
                refine s_iload_n (pc := 71) 3 dX12_first_71 rfl rfl ?_
                refine s_iconst (pc := 72) 2 dX12_first_72 kc_2 ?_
                refine s_bind (fun q52 hq53 => ?_)
                have hC54 := t_X12_fact (l := xl X) (G := xG X) hq53
                refine s_callV (pc := 73) (As := [.int s31.2, .int 2]) (st := [.ref (gh (xG X) + a0)]) (nlt rfl) (q := (RX12, TX12, 59)) rfl rfl o37 cl_X12_fact wi_X12_fact wl_X12_fact km_X12_194 rfl rfl (nle rfl) (nle rfl) (nle rfl) dX12_first_73 hC54 ?_
                show S0 X _ s31.1 76 [some (.ref (gh (xG X) + a0)), some (.int p1), some (.int p2), some (.int s31.2), none, none] [.int q52, .ref (gh (xG X) + a0)] _
                refine s_bind (fun q55 hq56 => ?_)
                have hC57 := t_X12_placeOf (l := xl X) (G := xG X) (M := s31.1) hq56
                refine s_callS (pc := 76) (As := [.int q52]) (st := [.ref (gh (xG X) + a0)]) cl_X12_placeOf wt_X12_placeOf km_X12_362 rfl rfl (nle rfl) (nle rfl) (nle rfl) dX12_first_76 hC57 ?_
                show S0 X _ s31.1 79 [some (.ref (gh (xG X) + a0)), some (.int p1), some (.int p2), some (.int s31.2), none, none] [.int q55, .ref (gh (xG X) + a0)] _
                refine s_bind (fun q58 hq59 => ?_)
                have hC60 := t_X12_measuresTo (l := xl X) (G := xG X) hq59
                refine s_callV (pc := 79) (As := [.int q55]) (st := []) (nlt rfl) (q := (RX12, TX12, 59)) rfl rfl o37 cl_X12_measuresTo wi_X12_measuresTo wl_X12_measuresTo km_X12_393 rfl rfl (nle rfl) (nle rfl) (nle rfl) dX12_first_79 hC60 ?_
                have h61 := hC60.1 X
                have o62 := h61.ok o37
                show S0 X _ q58 82 [some (.ref (gh (xG X) + a0)), some (.int p1), some (.int p2), some (.int s31.2), none, none] [] _
                refine s_iconst (pc := 82) 0 dX12_first_82 kc_0 ?_
                refine s_istore (pc := 83) dX12_first_83 (nlt rfl) rfl (L' := [some (.ref (gh (xG X) + a0)), some (.int p1), some (.int p2), some (.int s31.2), some (.int 0), none]) rfl ?_
                refine s_drop (L' := [some (.ref (gh (xG X) + a0)), some (.int p1), some (.int p2), some (.int s31.2), some (.int 0), none]) ?_ (And.intro rfl (And.intro rfl (And.intro rfl (And.intro rfl (And.intro rfl trivial)))))
                refine s_loop1 q58 (fun s63 : Mem × Int32 => s63.1) (fun s63 : Mem × Int32 => [some (.ref (gh (xG X) + a0)), some (.int p1), some (.int p2), some (.int s31.2), some (.int s63.2), none]) (fun x70 : Mem => x70) 150 (fun x70 : Mem => [some (.ref (gh (xG X) + a0)), some (.int p1), some (.int p2), some (.int s31.2), none, none]) (fun x70 hx71 => ?_) (fun T65 R67 hT66 hR68 s63 hs64 => ?_) (q58, 0) Le.rf
                · show S0 X _ x70 150 [some (.ref (gh (xG X) + a0)), some (.int p1), some (.int p2), some (.int s31.2), none, none] [] _
                  have o100 := hx71.ok o62
                  exact s_drop (hj49 x70 (h61.tr hx71)) (And.intro rfl (And.intro rfl (And.intro rfl (And.intro rfl trivial))))
                · show S0 X _ s63.1 85 [some (.ref (gh (xG X) + a0)), some (.int p1), some (.int p2), some (.int s31.2), some (.int s63.2), none] [] _
                  have o69 := hs64.ok o62
                  refine s_iload (pc := 85) dX12_first_85 rfl ?_
                  refine s_sipush (pc := 87) 9331 dX12_first_87 ks_9331 ?_
                  refine s_icge (pc := 90) 150 dX12_first_90 rfl ?_ ?_
                  · exact s_drop (hR68 s63.1 hs64) (And.intro rfl (And.intro rfl (And.intro rfl (And.intro rfl trivial))))
                  · refine s_aload_n (pc := 93) 0 dX12_first_93 rfl rfl ?_
                    refine s_geto (pc := 94) F_12 39 rfl o69 dX12_first_94 kf_X12_89 ?_
                    refine s_rvB (fun r72 => ?_)
                    refine s_iload (pc := 97) dX12_first_97 rfl ?_
                    refine s_aload_n (pc := 99) 0 dX12_first_99 rfl rfl ?_
                    refine s_geto (pc := 100) F_12 39 rfl o69 dX12_first_100 kf_X12_89 ?_
                    refine s_rvB (fun r73 => ?_)
                    refine s_iload (pc := 103) dX12_first_103 rfl ?_
                    refine s_grd (fun o74 => ?_)
                    refine s_grd (fun i75 => ?_)
                    refine s_iald (pc := 105) o74 i75 dX12_first_105 ?_
                    refine s_ldc (pc := 106) dX12_first_106 ki_X12_229 ?_
                    refine s_join s63.1 (fun s77 : Int32 => s63.1) 143 (fun s77 : Int32 => [some (.ref (gh (xG X) + a0)), some (.int p1), some (.int p2), some (.int s31.2), some (.int s63.2), none]) (fun s77 : Int32 => [.int s77, .int s63.2, .ref (gh (xG X) + r72)]) (fun s77 hs78 => ?_) (fun j76 hj79 => ?_)
                    · show S0 X _ s63.1 143 [some (.ref (gh (xG X) + a0)), some (.int p1), some (.int p2), some (.int s31.2), some (.int s63.2), none] [.int s77, .int s63.2, .ref (gh (xG X) + r72)] _
                      refine s_grd (fun o80 => ?_)
                      refine s_grd (fun i81 => ?_)
                      refine s_iast (pc := 143) o80 i81 dX12_first_143 (fun M82 hM83 => ?_)
                      have h84 := le_wI hM83
                      have o85 := h84.ok o69
                      refine s_iinc (pc := 144) dX12_first_144 rfl (v := s63.2 + 1) (congrArg (fun z : Int32 => s63.2 + z) kc_1) (nlt rfl) rfl (L' := [some (.ref (gh (xG X) + a0)), some (.int p1), some (.int p2), some (.int s31.2), some (.int (s63.2 + 1)), none]) rfl ?_
                      refine s_bv (fun x86 : Int32 => [some (.ref (gh (xG X) + a0)), some (.int p1), some (.int p2), some (.int s31.2), some (.int x86), none]) (fun x86 => ?_) rfl
                      refine s_goto (pc := 147) 85 dX12_first_147 rfl ?_
                      exact s_drop (hT66 (M82, x86) (hs64.tr h84)) (And.intro rfl (And.intro rfl (And.intro rfl (And.intro rfl (And.intro rfl trivial)))))
                    · refine s_join s63.1 (fun s88 : Unit => s63.1) 123 (fun s88 : Unit => [some (.ref (gh (xG X) + a0)), some (.int p1), some (.int p2), some (.int s31.2), some (.int s63.2), none]) (fun s88 : Unit => [.int s63.2, .ref (gh (xG X) + r72)]) (fun s88 hs89 => ?_) (fun j87 hj90 => ?_)
                      · show S0 X _ s63.1 123 [some (.ref (gh (xG X) + a0)), some (.int p1), some (.int p2), some (.int s31.2), some (.int s63.2), none] [.int s63.2, .ref (gh (xG X) + r72)] _
                        refine s_ldc (pc := 123) dX12_first_123 ki_X12_229 ?_
                        refine s_goto (pc := 125) 143 dX12_first_125 rfl ?_
                        exact s_drop (hj79 1000000 Le.rf) (And.intro rfl (And.intro rfl (And.intro rfl (And.intro rfl (And.intro rfl trivial)))))
                      · refine s_icge (pc := 108) 123 dX12_first_108 rfl ?_ ?_
                        · exact s_drop (hj90 () Le.rf) (And.intro rfl (And.intro rfl (And.intro rfl (And.intro rfl (And.intro rfl trivial)))))
                        · refine s_aload_n (pc := 111) 0 dX12_first_111 rfl rfl ?_
                          refine s_geto (pc := 112) F_12 35 rfl o69 dX12_first_112 kf_X12_77 ?_
                          refine s_rvB (fun r91 => ?_)
                          refine s_iload (pc := 115) dX12_first_115 rfl ?_
                          refine s_grd (fun o92 => ?_)
                          refine s_grd (fun i93 => ?_)
                          refine s_iald (pc := 117) o92 i93 dX12_first_117 ?_
                          refine s_ldc (pc := 118) dX12_first_118 ki_X12_229 ?_
                          refine s_iclt (pc := 120) 128 dX12_first_120 rfl ?_ ?_
                          · refine s_aload_n (pc := 128) 0 dX12_first_128 rfl rfl ?_
                            refine s_geto (pc := 129) F_12 39 rfl o69 dX12_first_129 kf_X12_89 ?_
                            refine s_rvB (fun r94 => ?_)
                            refine s_iload (pc := 132) dX12_first_132 rfl ?_
                            refine s_grd (fun o95 => ?_)
                            refine s_grd (fun i96 => ?_)
                            refine s_iald (pc := 134) o95 i96 dX12_first_134 ?_
                            refine s_aload_n (pc := 135) 0 dX12_first_135 rfl rfl ?_
                            refine s_geto (pc := 136) F_12 35 rfl o69 dX12_first_136 kf_X12_77 ?_
                            refine s_rvB (fun r97 => ?_)
                            refine s_iload (pc := 139) dX12_first_139 rfl ?_
                            refine s_grd (fun o98 => ?_)
                            refine s_grd (fun i99 => ?_)
                            refine s_iald (pc := 141) o98 i99 dX12_first_141 ?_
                            refine s_iadd (pc := 142) dX12_first_142 ?_
                            exact s_drop (hj79 ((mI s63.1 r94 s63.2.toNatClampNeg) + (mI s63.1 r97 s63.2.toNatClampNeg)) Le.rf) (And.intro rfl (And.intro rfl (And.intro rfl (And.intro rfl (And.intro rfl trivial)))))
                          · exact s_drop (hj90 () Le.rf) (And.intro rfl (And.intro rfl (And.intro rfl (And.intro rfl (And.intro rfl trivial)))))
              · refine s_goto (pc := 66) 150 dX12_first_66 rfl ?_
                exact s_drop (hj49 s31.1 Le.rf) (And.intro rfl (And.intro rfl (And.intro rfl (And.intro rfl trivial))))
      · show S0 X _ s13.1 25 [some (.ref (gh (xG X) + a0)), some (.int p1), some (.int p2), some (.int s13.2), none, none] [] _
        have o19 := hs14.ok o12
        refine s_iload_n (pc := 25) 3 dX12_first_25 rfl rfl ?_
        refine s_sipush (pc := 26) 9331 dX12_first_26 ks_9331 ?_
        refine s_icge (pc := 29) 45 dX12_first_29 rfl ?_ ?_
        · exact s_drop (hR18 s13.1 hs14) (And.intro rfl (And.intro rfl (And.intro rfl trivial)))
        · refine s_aload_n (pc := 32) 0 dX12_first_32 rfl rfl ?_
          refine s_geto (pc := 33) F_12 39 rfl o19 dX12_first_33 kf_X12_89 ?_
          refine s_rvB (fun r22 => ?_)
          refine s_iload_n (pc := 36) 3 dX12_first_36 rfl rfl ?_
          refine s_iconst (pc := 37) 0 dX12_first_37 kc_0 ?_
          refine s_grd (fun o23 => ?_)
          refine s_grd (fun i24 => ?_)
          refine s_iast (pc := 38) o23 i24 dX12_first_38 (fun M25 hM26 => ?_)
          have h27 := le_wI hM26
          have o28 := h27.ok o19
          refine s_iinc (pc := 39) dX12_first_39 rfl (v := s13.2 + 1) (congrArg (fun z : Int32 => s13.2 + z) kc_1) (nlt rfl) rfl (L' := [some (.ref (gh (xG X) + a0)), some (.int p1), some (.int p2), some (.int (s13.2 + 1)), none, none]) rfl ?_
          refine s_bv (fun x29 : Int32 => [some (.ref (gh (xG X) + a0)), some (.int p1), some (.int p2), some (.int x29), none, none]) (fun x29 => ?_) rfl
          refine s_goto (pc := 42) 25 dX12_first_42 rfl ?_
          exact s_drop (hT16 (M25, x29) (hs14.tr h27)) (And.intro rfl (And.intro rfl (And.intro rfl (And.intro rfl trivial))))
    · refine s_iconst (pc := 17) (-1) dX12_first_17 kc_m1 ?_
      exact s_iret rfl dX12_first_18
set_option maxRecDepth 100000 in
set_option maxHeartbeats 8000000 in
noncomputable def f_X12_judge (M : Mem) (a0 : Nat) (p1 : Int32) : Option (Mem × Int32) :=
  Option.bind (f_X12_lies p1 0 1) (fun q1 => if q1 = 0 then (some (M, (-1))) else (Option.bind (loopO (σ := Mem × Int32 × Int32 × Int32) (ρ := Mem × Int32 × Int32) (fun s4 => grd (okO s4.1 12 a0) (Option.bind (mR s4.1 a0 3) (fun r13 => grd (okO s4.1 14 r13) (grd (vp_in 56 (mL s4.1 r13)) (if (mI s4.1 r13 (56 : Int32).toNatClampNeg) ≤ s4.2.2.2 then (some (.inr (s4.1, s4.2.1, s4.2.2.1))) else (Option.bind (f_X12_fact s4.1 a0 s4.2.2.2 0) (fun q16 => bv (fun (s20 : Mem × Int32 × Int32) => bv (s4.2.2.2 + 1 : Int32) (fun x24 => some (.inl (s20.1, s20.2.1, s20.2.2, x24)))) (fun j19 => if q16 = (-1) then (j19 (s4.1, s4.2.1, s4.2.2.1)) else (Option.bind (f_X12_fact s4.1 a0 q16 2) (fun q25 => Option.bind (f_X12_fact s4.1 a0 s4.2.2.2 2) (fun q28 => Option.bind (f_X12_fact s4.1 a0 s4.2.2.2 1) (fun q31 => Option.bind (f_X12_leadsTo s4.1 a0 q25 q28 q31) (fun q34 => if q34.2 = 0 then (bv (fun (s40 : Int32) => bv (s4.2.2.1 + 1 : Int32) (fun x43 => j19 (q34.1, s40, x43))) (fun j39 => if s4.2.1 = (-1) then (j39 s4.2.2.2) else (j39 s4.2.1))) else (j19 (q34.1, s4.2.1, s4.2.2.1))))))))))))))) (M, (-1), 0, 0)) (fun (x10 : Mem × Int32 × Int32) => if p1 = 0 then (some (x10.1, x10.2.1)) else (some (x10.1, x10.2.2)))))
abbrev Y_X12_judge : Sta := (RX12, "judge", cX12_judge, 6, (some .int), 209)
set_option maxRecDepth 100000 in
set_option maxHeartbeats 8000000 in
theorem t_X12_judge {l : Launch} {G : Gh} {M : Mem} {a0 : Nat} {p1 : Int32} {q : Mem × Int32} (h : f_X12_judge M a0 p1 = some q) : Ctr l G yX12_judge Y_X12_judge M [.ref (gh G + a0), .int p1] q.1 (some (.int q.2)) := by
  refine Ctr.of (Y := Y_X12_judge) (L := [some (.ref (gh G + a0)), some (.int p1), none, none, none, none]) (t := Option.bind (f_X12_judge M a0 p1) (fun q => some (q.1, some (.int q.2)))) (by decide) rfl rfl (nle rfl) (Lof_in 4 _ rfl) (fun X hG hl => ?_) (by rw [h]; rfl)
  subst hG
  subst hl
  unfold f_X12_judge
  refine s_iload_n (pc := 0) 1 dX12_judge_0 rfl rfl ?_
  refine s_iconst (pc := 1) 0 dX12_judge_1 kc_0 ?_
  refine s_iconst (pc := 2) 1 dX12_judge_2 kc_1 ?_
  refine s_bind (fun q1 hq2 => ?_)
  have hC3 := t_X12_lies (l := xl X) (G := xG X) (M := M) hq2
  refine s_callS (pc := 3) (As := [.int p1, .int 0, .int 1]) (st := []) cl_X12_lies wt_X12_lies km_X12_123 rfl rfl (nle rfl) (nle rfl) (nle rfl) dX12_judge_3 hC3 ?_
  show S0 X _ M 6 [some (.ref (gh (xG X) + a0)), some (.int p1), none, none, none, none] [.int q1] _
  refine s_ifne (pc := 6) 11 dX12_judge_6 rfl ?_ ?_
  · refine s_iconst (pc := 11) (-1) dX12_judge_11 kc_m1 ?_
    refine s_istore_n (pc := 12) 2 dX12_judge_12 rfl (nlt rfl) rfl (L' := [some (.ref (gh (xG X) + a0)), some (.int p1), some (.int (-1)), none, none, none]) rfl ?_
    refine s_iconst (pc := 13) 0 dX12_judge_13 kc_0 ?_
    refine s_istore_n (pc := 14) 3 dX12_judge_14 rfl (nlt rfl) rfl (L' := [some (.ref (gh (xG X) + a0)), some (.int p1), some (.int (-1)), some (.int 0), none, none]) rfl ?_
    refine s_iconst (pc := 15) 0 dX12_judge_15 kc_0 ?_
    refine s_istore (pc := 16) dX12_judge_16 (nlt rfl) rfl (L' := [some (.ref (gh (xG X) + a0)), some (.int p1), some (.int (-1)), some (.int 0), some (.int 0), none]) rfl ?_
    refine s_drop (L' := [some (.ref (gh (xG X) + a0)), some (.int p1), some (.int (-1)), some (.int 0), some (.int 0), none]) ?_ (And.intro rfl (And.intro rfl (And.intro rfl (And.intro rfl (And.intro rfl trivial)))))
    refine s_loop1 M (fun s4 : Mem × Int32 × Int32 × Int32 => s4.1) (fun s4 : Mem × Int32 × Int32 × Int32 => [some (.ref (gh (xG X) + a0)), some (.int p1), some (.int s4.2.1), some (.int s4.2.2.1), some (.int s4.2.2.2), none]) (fun x10 : Mem × Int32 × Int32 => x10.1) 97 (fun x10 : Mem × Int32 × Int32 => [none, some (.int p1), some (.int x10.2.1), some (.int x10.2.2), none, none]) (fun x10 hx11 => ?_) (fun T6 R8 hT7 hR9 s4 hs5 => ?_) (M, (-1), 0, 0) Le.rf
    · show S0 X _ x10.1 97 [none, some (.int p1), some (.int x10.2.1), some (.int x10.2.2), none, none] [] _
      refine s_iload_n (pc := 97) 1 dX12_judge_97 rfl rfl ?_
      refine s_ifne (pc := 98) 105 dX12_judge_98 rfl ?_ ?_
      · refine s_iload_n (pc := 105) 3 dX12_judge_105 rfl rfl ?_
        exact s_iret rfl dX12_judge_106
      · refine s_iload_n (pc := 101) 2 dX12_judge_101 rfl rfl ?_
        refine s_goto (pc := 102) 106 dX12_judge_102 rfl ?_
        exact s_iret rfl dX12_judge_106
    · show S0 X _ s4.1 18 [some (.ref (gh (xG X) + a0)), some (.int p1), some (.int s4.2.1), some (.int s4.2.2.1), some (.int s4.2.2.2), none] [] _
      refine s_iload (pc := 18) dX12_judge_18 rfl ?_
      refine s_aload_n (pc := 20) 0 dX12_judge_20 rfl rfl ?_
      refine s_grd (fun o12 => ?_)
      refine s_geto (pc := 21) F_12 3 rfl o12 dX12_judge_21 kf_X12_20 ?_
      refine s_rvB (fun r13 => ?_)
      refine s_bipush (pc := 24) 56 dX12_judge_24 kb_56 ?_
      refine s_grd (fun o14 => ?_)
      refine s_grd (fun i15 => ?_)
      refine s_iald (pc := 26) o14 i15 dX12_judge_26 ?_
      refine s_icge (pc := 27) 97 dX12_judge_27 rfl ?_ ?_
      · exact s_drop (hR9 (s4.1, s4.2.1, s4.2.2.1) hs5) (And.intro rfl (And.intro rfl (And.intro rfl trivial)))
      · refine s_aload_n (pc := 30) 0 dX12_judge_30 rfl rfl ?_
        refine s_iload (pc := 31) dX12_judge_31 rfl ?_
        refine s_iconst (pc := 33) 0 dX12_judge_33 kc_0 ?_
        refine s_bind (fun q16 hq17 => ?_)
        have hC18 := t_X12_fact (l := xl X) (G := xG X) hq17
        refine s_callV (pc := 34) (As := [.int s4.2.2.2, .int 0]) (st := []) (nlt rfl) (q := (RX12, TX12, 59)) rfl rfl o12 cl_X12_fact wi_X12_fact wl_X12_fact km_X12_194 rfl rfl (nle rfl) (nle rfl) (nle rfl) dX12_judge_34 hC18 ?_
        show S0 X _ s4.1 37 [some (.ref (gh (xG X) + a0)), some (.int p1), some (.int s4.2.1), some (.int s4.2.2.1), some (.int s4.2.2.2), none] [.int q16] _
        refine s_istore (pc := 37) dX12_judge_37 (nlt rfl) rfl (L' := [some (.ref (gh (xG X) + a0)), some (.int p1), some (.int s4.2.1), some (.int s4.2.2.1), some (.int s4.2.2.2), some (.int q16)]) rfl ?_
        refine s_iload (pc := 39) dX12_judge_39 rfl ?_
        refine s_iconst (pc := 41) (-1) dX12_judge_41 kc_m1 ?_
        refine s_join s4.1 (fun s20 : Mem × Int32 × Int32 => s20.1) 91 (fun s20 : Mem × Int32 × Int32 => [some (.ref (gh (xG X) + a0)), some (.int p1), some (.int s20.2.1), some (.int s20.2.2), some (.int s4.2.2.2), none]) (fun s20 : Mem × Int32 × Int32 => []) (fun s20 hs21 => ?_) (fun j19 hj22 => ?_)
        · show S0 X _ s20.1 91 [some (.ref (gh (xG X) + a0)), some (.int p1), some (.int s20.2.1), some (.int s20.2.2), some (.int s4.2.2.2), none] [] _
          have o23 := hs21.ok o12
          refine s_iinc (pc := 91) dX12_judge_91 rfl (v := s4.2.2.2 + 1) (congrArg (fun z : Int32 => s4.2.2.2 + z) kc_1) (nlt rfl) rfl (L' := [some (.ref (gh (xG X) + a0)), some (.int p1), some (.int s20.2.1), some (.int s20.2.2), some (.int (s4.2.2.2 + 1)), none]) rfl ?_
          refine s_bv (fun x24 : Int32 => [some (.ref (gh (xG X) + a0)), some (.int p1), some (.int s20.2.1), some (.int s20.2.2), some (.int x24), none]) (fun x24 => ?_) rfl
          refine s_goto (pc := 94) 18 dX12_judge_94 rfl ?_
          exact s_drop (hT7 (s20.1, s20.2.1, s20.2.2, x24) (hs5.tr hs21)) (And.intro rfl (And.intro rfl (And.intro rfl (And.intro rfl (And.intro rfl trivial)))))
        · refine s_iceq (pc := 42) 91 dX12_judge_42 rfl ?_ ?_
          · exact s_drop (hj22 (s4.1, s4.2.1, s4.2.2.1) Le.rf) (And.intro rfl (And.intro rfl (And.intro rfl (And.intro rfl (And.intro rfl trivial)))))
          · refine s_aload_n (pc := 45) 0 dX12_judge_45 rfl rfl ?_
            refine s_aload_n (pc := 46) 0 dX12_judge_46 rfl rfl ?_
            refine s_iload (pc := 47) dX12_judge_47 rfl ?_
            refine s_iconst (pc := 49) 2 dX12_judge_49 kc_2 ?_
            refine s_bind (fun q25 hq26 => ?_)
            have hC27 := t_X12_fact (l := xl X) (G := xG X) hq26
            refine s_callV (pc := 50) (As := [.int q16, .int 2]) (st := [.ref (gh (xG X) + a0)]) (nlt rfl) (q := (RX12, TX12, 59)) rfl rfl o12 cl_X12_fact wi_X12_fact wl_X12_fact km_X12_194 rfl rfl (nle rfl) (nle rfl) (nle rfl) dX12_judge_50 hC27 ?_
            show S0 X _ s4.1 53 [some (.ref (gh (xG X) + a0)), some (.int p1), some (.int s4.2.1), some (.int s4.2.2.1), some (.int s4.2.2.2), some (.int q16)] [.int q25, .ref (gh (xG X) + a0)] _
            refine s_aload_n (pc := 53) 0 dX12_judge_53 rfl rfl ?_
            refine s_iload (pc := 54) dX12_judge_54 rfl ?_
            refine s_iconst (pc := 56) 2 dX12_judge_56 kc_2 ?_
            refine s_bind (fun q28 hq29 => ?_)
            have hC30 := t_X12_fact (l := xl X) (G := xG X) hq29
            refine s_callV (pc := 57) (As := [.int s4.2.2.2, .int 2]) (st := [.int q25, .ref (gh (xG X) + a0)]) (nlt rfl) (q := (RX12, TX12, 59)) rfl rfl o12 cl_X12_fact wi_X12_fact wl_X12_fact km_X12_194 rfl rfl (nle rfl) (nle rfl) (nle rfl) dX12_judge_57 hC30 ?_
            show S0 X _ s4.1 60 [some (.ref (gh (xG X) + a0)), some (.int p1), some (.int s4.2.1), some (.int s4.2.2.1), some (.int s4.2.2.2), some (.int q16)] [.int q28, .int q25, .ref (gh (xG X) + a0)] _
            refine s_aload_n (pc := 60) 0 dX12_judge_60 rfl rfl ?_
            refine s_iload (pc := 61) dX12_judge_61 rfl ?_
            refine s_iconst (pc := 63) 1 dX12_judge_63 kc_1 ?_
            refine s_bind (fun q31 hq32 => ?_)
            have hC33 := t_X12_fact (l := xl X) (G := xG X) hq32
            refine s_callV (pc := 64) (As := [.int s4.2.2.2, .int 1]) (st := [.int q28, .int q25, .ref (gh (xG X) + a0)]) (nlt rfl) (q := (RX12, TX12, 59)) rfl rfl o12 cl_X12_fact wi_X12_fact wl_X12_fact km_X12_194 rfl rfl (nle rfl) (nle rfl) (nle rfl) dX12_judge_64 hC33 ?_
            show S0 X _ s4.1 67 [some (.ref (gh (xG X) + a0)), some (.int p1), some (.int s4.2.1), some (.int s4.2.2.1), some (.int s4.2.2.2), some (.int q16)] [.int q31, .int q28, .int q25, .ref (gh (xG X) + a0)] _
            refine s_bind (fun q34 hq35 => ?_)
            have hC36 := t_X12_leadsTo (l := xl X) (G := xG X) hq35
            refine s_callV (pc := 67) (As := [.int q25, .int q28, .int q31]) (st := []) (nlt rfl) (q := (RX12, TX12, 59)) rfl rfl o12 cl_X12_leadsTo wi_X12_leadsTo wl_X12_leadsTo km_X12_380 rfl rfl (nle rfl) (nle rfl) (nle rfl) dX12_judge_67 hC36 ?_
            have h37 := hC36.1 X
            have o38 := h37.ok o12
            show S0 X _ q34.1 70 [some (.ref (gh (xG X) + a0)), some (.int p1), some (.int s4.2.1), some (.int s4.2.2.1), some (.int s4.2.2.2), some (.int q16)] [.int q34.2] _
            refine s_ifeq (pc := 70) 76 dX12_judge_70 rfl ?_ ?_
            · refine s_iload_n (pc := 76) 2 dX12_judge_76 rfl rfl ?_
              refine s_iconst (pc := 77) (-1) dX12_judge_77 kc_m1 ?_
              refine s_join q34.1 (fun s40 : Int32 => q34.1) 87 (fun s40 : Int32 => [some (.ref (gh (xG X) + a0)), some (.int p1), none, some (.int s4.2.2.1), some (.int s4.2.2.2), none]) (fun s40 : Int32 => [.int s40]) (fun s40 hs41 => ?_) (fun j39 hj42 => ?_)
              · show S0 X _ q34.1 87 [some (.ref (gh (xG X) + a0)), some (.int p1), none, some (.int s4.2.2.1), some (.int s4.2.2.2), none] [.int s40] _
                refine s_istore_n (pc := 87) 2 dX12_judge_87 rfl (nlt rfl) rfl (L' := [some (.ref (gh (xG X) + a0)), some (.int p1), some (.int s40), some (.int s4.2.2.1), some (.int s4.2.2.2), none]) rfl ?_
                refine s_iinc (pc := 88) dX12_judge_88 rfl (v := s4.2.2.1 + 1) (congrArg (fun z : Int32 => s4.2.2.1 + z) kc_1) (nlt rfl) rfl (L' := [some (.ref (gh (xG X) + a0)), some (.int p1), some (.int s40), some (.int (s4.2.2.1 + 1)), some (.int s4.2.2.2), none]) rfl ?_
                refine s_bv (fun x43 : Int32 => [some (.ref (gh (xG X) + a0)), some (.int p1), some (.int s40), some (.int x43), some (.int s4.2.2.2), none]) (fun x43 => ?_) rfl
                exact s_drop (hj22 (q34.1, s40, x43) h37) (And.intro rfl (And.intro rfl (And.intro rfl (And.intro rfl (And.intro rfl trivial)))))
              · refine s_icne (pc := 78) 86 dX12_judge_78 rfl ?_ ?_
                · refine s_iload_n (pc := 86) 2 dX12_judge_86 rfl rfl ?_
                  exact s_drop (hj42 s4.2.1 Le.rf) (And.intro rfl (And.intro rfl (And.intro rfl (And.intro rfl trivial))))
                · refine s_iload (pc := 81) dX12_judge_81 rfl ?_
                  refine s_goto (pc := 83) 87 dX12_judge_83 rfl ?_
                  exact s_drop (hj42 s4.2.2.2 Le.rf) (And.intro rfl (And.intro rfl (And.intro rfl (And.intro rfl trivial))))
            · refine s_goto (pc := 73) 91 dX12_judge_73 rfl ?_
              exact s_drop (hj22 (q34.1, s4.2.1, s4.2.2.1) h37) (And.intro rfl (And.intro rfl (And.intro rfl (And.intro rfl (And.intro rfl trivial)))))
  · refine s_iconst (pc := 9) (-1) dX12_judge_9 kc_m1 ?_
    exact s_iret rfl dX12_judge_10
set_option maxRecDepth 100000 in
set_option maxHeartbeats 8000000 in
noncomputable def f_X12_law (M : Mem) (a0 : Nat) : Option (Mem × Int32) :=
  grd (okO M 12 a0) (Option.bind (mR M a0 3) (fun r2 => grd (okO M 14 r2) (grd (vp_in 57 (mL M r2)) (if (mI M r2 (57 : Int32).toNatClampNeg) = 6 then (bv (wI M a0 17 0) (fun M42 => Option.bind (f_X12_refuses M42 a0 (-5)) (fun q46 => some (q46.1, q46.2)))) else (bv (wI M a0 14 0) (fun M5 => Option.bind (f_X12_reads M5 a0) (fun q9 => if q9.2 = 0 then (Option.bind (f_X12_refuses q9.1 a0 (-6)) (fun q37 => some (q37.1, q37.2))) else (Option.bind (mR q9.1 a0 3) (fun r14 => grd (okO q9.1 14 r14) (grd (vp_in 57 (mL q9.1 r14)) (Option.bind (f_X12_lays q9.1 a0 (mI q9.1 r14 (57 : Int32).toNatClampNeg)) (fun q17 => Option.bind (mR q17 a0 3) (fun r22 => grd (okO q17 14 r22) (grd (vp_in 57 (mL q17 r22)) (bv (wI q17 r22 (57 : Int32).toNatClampNeg ((mI q17 r22 (57 : Int32).toNatClampNeg) + 1)) (fun M25 => Option.bind (mR M25 a0 3) (fun r29 => grd (okO M25 14 r29) (grd (vp_in 57 (mL M25 r29)) (Option.bind (f_X12_good M25 a0 ((mI M25 r29 (57 : Int32).toNatClampNeg) - 1)) (fun q32 => some (q32.1, q32.2)))))))))))))))))))))
abbrev Y_X12_law : Sta := (RX12, "law", cX12_law, 1, (some .int), 209)
set_option maxRecDepth 100000 in
set_option maxHeartbeats 8000000 in
theorem t_X12_law {l : Launch} {G : Gh} {M : Mem} {a0 : Nat} {q : Mem × Int32} (h : f_X12_law M a0 = some q) : Ctr l G yX12_law Y_X12_law M [.ref (gh G + a0)] q.1 (some (.int q.2)) := by
  refine Ctr.of (Y := Y_X12_law) (L := [some (.ref (gh G + a0))]) (t := Option.bind (f_X12_law M a0) (fun q => some (q.1, some (.int q.2)))) (by decide) rfl rfl (nle rfl) (Lof_in 0 _ rfl) (fun X hG hl => ?_) (by rw [h]; rfl)
  subst hG
  subst hl
  unfold f_X12_law
  refine s_aload_n (pc := 0) 0 dX12_law_0 rfl rfl ?_
  refine s_grd (fun o1 => ?_)
  refine s_geto (pc := 1) F_12 3 rfl o1 dX12_law_1 kf_X12_20 ?_
  refine s_rvB (fun r2 => ?_)
  refine s_bipush (pc := 4) 57 dX12_law_4 kb_57 ?_
  refine s_grd (fun o3 => ?_)
  refine s_grd (fun i4 => ?_)
  refine s_iald (pc := 6) o3 i4 dX12_law_6 ?_
  refine s_bipush (pc := 7) 6 dX12_law_7 kb_6 ?_
  refine s_icne (pc := 9) 24 dX12_law_9 rfl ?_ ?_
  · refine s_aload_n (pc := 24) 0 dX12_law_24 rfl rfl ?_
    refine s_iconst (pc := 25) 0 dX12_law_25 kc_0 ?_
    refine s_puti (pc := 26) F_12 14 rfl o1 rfl rfl (by decide) dX12_law_26 kf_X12_249 (fun M5 hM6 => ?_)
    have h7 := le_wI hM6
    have o8 := h7.ok o1
    refine s_aload_n (pc := 29) 0 dX12_law_29 rfl rfl ?_
    refine s_bind (fun q9 hq10 => ?_)
    have hC11 := t_X12_reads (l := xl X) (G := xG X) hq10
    refine s_callV (pc := 30) (As := []) (st := []) (nlt rfl) (q := (RX12, TX12, 59)) rfl rfl o8 cl_X12_reads wi_X12_reads wl_X12_reads km_X12_300 rfl rfl (nle rfl) (nle rfl) (nle rfl) dX12_law_30 hC11 ?_
    have h12 := hC11.1 X
    have o13 := h12.ok o8
    show S0 X _ q9.1 33 [some (.ref (gh (xG X) + a0))] [.int q9.2] _
    refine s_ifne (pc := 33) 43 dX12_law_33 rfl ?_ ?_
    · refine s_aload_n (pc := 43) 0 dX12_law_43 rfl rfl ?_
      refine s_aload_n (pc := 44) 0 dX12_law_44 rfl rfl ?_
      refine s_geto (pc := 45) F_12 3 rfl o13 dX12_law_45 kf_X12_20 ?_
      refine s_rvB (fun r14 => ?_)
      refine s_bipush (pc := 48) 57 dX12_law_48 kb_57 ?_
      refine s_grd (fun o15 => ?_)
      refine s_grd (fun i16 => ?_)
      refine s_iald (pc := 50) o15 i16 dX12_law_50 ?_
      refine s_bind (fun q17 hq18 => ?_)
      have hC19 := t_X12_lays (l := xl X) (G := xG X) hq18
      refine s_callV (pc := 51) (As := [.int (mI q9.1 r14 (57 : Int32).toNatClampNeg)]) (st := []) (nlt rfl) (q := (RX12, TX12, 59)) rfl rfl o13 cl_X12_lays wi_X12_lays wl_X12_lays km_X12_303 rfl rfl (nle rfl) (nle rfl) (nle rfl) dX12_law_51 hC19 ?_
      have h20 := hC19.1 X
      have o21 := h20.ok o13
      show S0 X _ q17 54 [some (.ref (gh (xG X) + a0))] [] _
      refine s_aload_n (pc := 54) 0 dX12_law_54 rfl rfl ?_
      refine s_geto (pc := 55) F_12 3 rfl o21 dX12_law_55 kf_X12_20 ?_
      refine s_rvB (fun r22 => ?_)
      refine s_bipush (pc := 58) 57 dX12_law_58 kb_57 ?_
      refine s_dup2 (pc := 60) dX12_law_60 rfl rfl ?_
      refine s_grd (fun o23 => ?_)
      refine s_grd (fun i24 => ?_)
      refine s_iald (pc := 61) o23 i24 dX12_law_61 ?_
      refine s_iconst (pc := 62) 1 dX12_law_62 kc_1 ?_
      refine s_iadd (pc := 63) dX12_law_63 ?_
      refine s_iast (pc := 64) o23 i24 dX12_law_64 (fun M25 hM26 => ?_)
      have h27 := le_wI hM26
      have o28 := h27.ok o21
      refine s_aload_n (pc := 65) 0 dX12_law_65 rfl rfl ?_
      refine s_aload_n (pc := 66) 0 dX12_law_66 rfl rfl ?_
      refine s_geto (pc := 67) F_12 3 rfl o28 dX12_law_67 kf_X12_20 ?_
      refine s_rvB (fun r29 => ?_)
      refine s_bipush (pc := 70) 57 dX12_law_70 kb_57 ?_
      refine s_grd (fun o30 => ?_)
      refine s_grd (fun i31 => ?_)
      refine s_iald (pc := 72) o30 i31 dX12_law_72 ?_
      refine s_iconst (pc := 73) 1 dX12_law_73 kc_1 ?_
      refine s_isub (pc := 74) dX12_law_74 ?_
      refine s_bind (fun q32 hq33 => ?_)
      have hC34 := t_X12_good (l := xl X) (G := xG X) hq33
      refine s_callV (pc := 75) (As := [.int ((mI M25 r29 (57 : Int32).toNatClampNeg) - 1)]) (st := []) (nlt rfl) (q := (RX12, TX12, 59)) rfl rfl o28 cl_X12_good wi_X12_good wl_X12_good km_X12_131 rfl rfl (nle rfl) (nle rfl) (nle rfl) dX12_law_75 hC34 ?_
      have h35 := hC34.1 X
      have o36 := h35.ok o28
      show S0 X _ q32.1 78 [some (.ref (gh (xG X) + a0))] [.int q32.2] _
      exact s_iret rfl dX12_law_78
    · refine s_aload_n (pc := 36) 0 dX12_law_36 rfl rfl ?_
      refine s_bipush (pc := 37) (-6) dX12_law_37 kb_m6 ?_
      refine s_bind (fun q37 hq38 => ?_)
      have hC39 := t_X12_refuses (l := xl X) (G := xG X) hq38
      refine s_callV (pc := 39) (As := [.int (-6)]) (st := []) (nlt rfl) (q := (RX12, TX12, 59)) rfl rfl o13 cl_X12_refuses wi_X12_refuses wl_X12_refuses km_X12_127 rfl rfl (nle rfl) (nle rfl) (nle rfl) dX12_law_39 hC39 ?_
      have h40 := hC39.1 X
      have o41 := h40.ok o13
      show S0 X _ q37.1 42 [some (.ref (gh (xG X) + a0))] [.int q37.2] _
      exact s_iret rfl dX12_law_42
  · refine s_aload_n (pc := 12) 0 dX12_law_12 rfl rfl ?_
    refine s_iconst (pc := 13) 0 dX12_law_13 kc_0 ?_
    refine s_puti (pc := 14) F_12 17 rfl o1 rfl rfl rfl dX12_law_14 kf_X12_211 (fun M42 hM43 => ?_)
    have h44 := le_wI hM43
    have o45 := h44.ok o1
    refine s_aload_n (pc := 17) 0 dX12_law_17 rfl rfl ?_
    refine s_bipush (pc := 18) (-5) dX12_law_18 kb_m5 ?_
    refine s_bind (fun q46 hq47 => ?_)
    have hC48 := t_X12_refuses (l := xl X) (G := xG X) hq47
    refine s_callV (pc := 20) (As := [.int (-5)]) (st := []) (nlt rfl) (q := (RX12, TX12, 59)) rfl rfl o45 cl_X12_refuses wi_X12_refuses wl_X12_refuses km_X12_127 rfl rfl (nle rfl) (nle rfl) (nle rfl) dX12_law_20 hC48 ?_
    have h49 := hC48.1 X
    have o50 := h49.ok o45
    show S0 X _ q46.1 23 [some (.ref (gh (xG X) + a0))] [.int q46.2] _
    exact s_iret rfl dX12_law_23
set_option maxRecDepth 100000 in
set_option maxHeartbeats 8000000 in
noncomputable def f_X12_likely (M : Mem) (a0 : Nat) (p1 : Int32) (p2 : Int32) : Option (Mem × Int32) :=
  Option.bind (f_X12_isDish p1) (fun q1 => if q1 = 0 then (some (M, (-1))) else (Option.bind (f_X12_lies p2 0 3) (fun q4 => if q4 = 0 then (some (M, (-1))) else (grd (okO M 12 a0) (Option.bind (f_X12_parts M a0 p1 p2) (fun q8 => Option.bind (loopO (σ := Int32 × Int32) (ρ := Int32) (fun s13 => if 9331 ≤ s13.2 then (some (.inr s13.1)) else (Option.bind (mR q8 a0 44) (fun r21 => grd (okO q8 15 r21) (grd (vp_in s13.2 (mL q8 r21)) (Option.bind (mR q8 a0 44) (fun r24 => grd (okO q8 15 r24) (grd (vp_in s13.1 (mL q8 r24)) (bv (fun (s28 : Int32) => bv (s13.2 + 1 : Int32) (fun x31 => some (.inl (s28, x31)))) (fun j27 => if (lg_cmp (mJ q8 r21 s13.2.toNatClampNeg) (mJ q8 r24 s13.1.toNatClampNeg)) ≤ 0 then (j27 s13.1) else (j27 s13.2)))))))))) (0, 1)) (fun (x19 : Int32) => Option.bind (f_X12_dishAt x19) (fun q32 => some (q8, q32)))))))))
abbrev Y_X12_likely : Sta := (RX12, "likely", cX12_likely, 5, (some .int), 209)
set_option maxRecDepth 100000 in
set_option maxHeartbeats 8000000 in
theorem t_X12_likely {l : Launch} {G : Gh} {M : Mem} {a0 : Nat} {p1 : Int32} {p2 : Int32} {q : Mem × Int32} (h : f_X12_likely M a0 p1 p2 = some q) : Ctr l G yX12_likely Y_X12_likely M [.ref (gh G + a0), .int p1, .int p2] q.1 (some (.int q.2)) := by
  refine Ctr.of (Y := Y_X12_likely) (L := [some (.ref (gh G + a0)), some (.int p1), some (.int p2), none, none]) (t := Option.bind (f_X12_likely M a0 p1 p2) (fun q => some (q.1, some (.int q.2)))) (by decide) rfl rfl (nle rfl) (Lof_in 2 _ rfl) (fun X hG hl => ?_) (by rw [h]; rfl)
  subst hG
  subst hl
  unfold f_X12_likely
  refine s_iload_n (pc := 0) 1 dX12_likely_0 rfl rfl ?_
  refine s_bind (fun q1 hq2 => ?_)
  have hC3 := t_X12_isDish (l := xl X) (G := xG X) (M := M) hq2
  refine s_callS (pc := 1) (As := [.int p1]) (st := []) cl_X12_isDish wt_X12_isDish km_X12_184 rfl rfl (nle rfl) (nle rfl) (nle rfl) dX12_likely_1 hC3 ?_
  show S0 X _ M 4 [some (.ref (gh (xG X) + a0)), some (.int p1), some (.int p2), none, none] [.int q1] _
  refine s_ifeq (pc := 4) 16 dX12_likely_4 rfl ?_ ?_
  · refine s_iconst (pc := 16) (-1) dX12_likely_16 kc_m1 ?_
    exact s_iret rfl dX12_likely_17
  · refine s_iload_n (pc := 7) 2 dX12_likely_7 rfl rfl ?_
    refine s_iconst (pc := 8) 0 dX12_likely_8 kc_0 ?_
    refine s_iconst (pc := 9) 3 dX12_likely_9 kc_3 ?_
    refine s_bind (fun q4 hq5 => ?_)
    have hC6 := t_X12_lies (l := xl X) (G := xG X) (M := M) hq5
    refine s_callS (pc := 10) (As := [.int p2, .int 0, .int 3]) (st := []) cl_X12_lies wt_X12_lies km_X12_123 rfl rfl (nle rfl) (nle rfl) (nle rfl) dX12_likely_10 hC6 ?_
    show S0 X _ M 13 [some (.ref (gh (xG X) + a0)), some (.int p1), some (.int p2), none, none] [.int q4] _
    refine s_ifne (pc := 13) 18 dX12_likely_13 rfl ?_ ?_
    · refine s_aload_n (pc := 18) 0 dX12_likely_18 rfl rfl ?_
      refine s_iload_n (pc := 19) 1 dX12_likely_19 rfl rfl ?_
      refine s_iload_n (pc := 20) 2 dX12_likely_20 rfl rfl ?_
      refine s_grd (fun o7 => ?_)
      refine s_bind (fun q8 hq9 => ?_)
      have hC10 := t_X12_parts (l := xl X) (G := xG X) hq9
      refine s_callV (pc := 21) (As := [.int p1, .int p2]) (st := []) (nlt rfl) (q := (RX12, TX12, 59)) rfl rfl o7 cl_X12_parts wi_X12_parts wl_X12_parts km_X12_404 rfl rfl (nle rfl) (nle rfl) (nle rfl) dX12_likely_21 hC10 ?_
      have h11 := hC10.1 X
      have o12 := h11.ok o7
      show S0 X _ q8 24 [some (.ref (gh (xG X) + a0)), some (.int p1), some (.int p2), none, none] [] _
      refine s_iconst (pc := 24) 0 dX12_likely_24 kc_0 ?_
      refine s_istore_n (pc := 25) 3 dX12_likely_25 rfl (nlt rfl) rfl (L' := [some (.ref (gh (xG X) + a0)), some (.int p1), some (.int p2), some (.int 0), none]) rfl ?_
      refine s_iconst (pc := 26) 1 dX12_likely_26 kc_1 ?_
      refine s_istore (pc := 27) dX12_likely_27 (nlt rfl) rfl (L' := [some (.ref (gh (xG X) + a0)), some (.int p1), some (.int p2), some (.int 0), some (.int 1)]) rfl ?_
      refine s_drop (L' := [some (.ref (gh (xG X) + a0)), none, none, some (.int 0), some (.int 1)]) ?_ (And.intro rfl (And.intro rfl (And.intro rfl trivial)))
      refine s_loop1 q8 (fun s13 : Int32 × Int32 => q8) (fun s13 : Int32 × Int32 => [some (.ref (gh (xG X) + a0)), none, none, some (.int s13.1), some (.int s13.2)]) (fun x19 : Int32 => q8) 63 (fun x19 : Int32 => [none, none, none, some (.int x19), none]) (fun x19 hx20 => ?_) (fun T15 R17 hT16 hR18 s13 hs14 => ?_) (0, 1) Le.rf
      · show S0 X _ q8 63 [none, none, none, some (.int x19), none] [] _
        refine s_iload_n (pc := 63) 3 dX12_likely_63 rfl rfl ?_
        refine s_bind (fun q32 hq33 => ?_)
        have hC34 := t_X12_dishAt (l := xl X) (G := xG X) (M := q8) hq33
        refine s_callS (pc := 64) (As := [.int x19]) (st := []) cl_X12_dishAt wt_X12_dishAt km_X12_359 rfl rfl (nle rfl) (nle rfl) (nle rfl) dX12_likely_64 hC34 ?_
        show S0 X _ q8 67 [none, none, none, some (.int x19), none] [.int q32] _
        exact s_iret rfl dX12_likely_67
      · show S0 X _ q8 29 [some (.ref (gh (xG X) + a0)), none, none, some (.int s13.1), some (.int s13.2)] [] _
        refine s_iload (pc := 29) dX12_likely_29 rfl ?_
        refine s_sipush (pc := 31) 9331 dX12_likely_31 ks_9331 ?_
        refine s_icge (pc := 34) 63 dX12_likely_34 rfl ?_ ?_
        · exact s_drop (hR18 s13.1 Le.rf) (And.intro rfl trivial)
        · refine s_aload_n (pc := 37) 0 dX12_likely_37 rfl rfl ?_
          refine s_geto (pc := 38) F_12 44 rfl o12 dX12_likely_38 kf_X12_104 ?_
          refine s_rvB (fun r21 => ?_)
          refine s_iload (pc := 41) dX12_likely_41 rfl ?_
          refine s_grd (fun o22 => ?_)
          refine s_grd (fun i23 => ?_)
          refine s_lald (pc := 43) o22 i23 dX12_likely_43 ?_
          refine s_aload_n (pc := 44) 0 dX12_likely_44 rfl rfl ?_
          refine s_geto (pc := 45) F_12 44 rfl o12 dX12_likely_45 kf_X12_104 ?_
          refine s_rvB (fun r24 => ?_)
          refine s_iload_n (pc := 48) 3 dX12_likely_48 rfl rfl ?_
          refine s_grd (fun o25 => ?_)
          refine s_grd (fun i26 => ?_)
          refine s_lald (pc := 49) o25 i26 dX12_likely_49 ?_
          refine s_lcmp (pc := 50) dX12_likely_50 ?_
          refine s_join q8 (fun s28 : Int32 => q8) 57 (fun s28 : Int32 => [some (.ref (gh (xG X) + a0)), none, none, some (.int s28), some (.int s13.2)]) (fun s28 : Int32 => []) (fun s28 hs29 => ?_) (fun j27 hj30 => ?_)
          · show S0 X _ q8 57 [some (.ref (gh (xG X) + a0)), none, none, some (.int s28), some (.int s13.2)] [] _
            refine s_iinc (pc := 57) dX12_likely_57 rfl (v := s13.2 + 1) (congrArg (fun z : Int32 => s13.2 + z) kc_1) (nlt rfl) rfl (L' := [some (.ref (gh (xG X) + a0)), none, none, some (.int s28), some (.int (s13.2 + 1))]) rfl ?_
            refine s_bv (fun x31 : Int32 => [some (.ref (gh (xG X) + a0)), none, none, some (.int s28), some (.int x31)]) (fun x31 => ?_) rfl
            refine s_goto (pc := 60) 29 dX12_likely_60 rfl ?_
            exact s_drop (hT16 (s28, x31) Le.rf) (And.intro rfl (And.intro rfl (And.intro rfl trivial)))
          · refine s_ifle (pc := 51) 57 dX12_likely_51 rfl ?_ ?_
            · exact s_drop (hj30 s13.1 Le.rf) (And.intro rfl (And.intro rfl (And.intro rfl trivial)))
            · refine s_iload (pc := 54) dX12_likely_54 rfl ?_
              refine s_istore_n (pc := 56) 3 dX12_likely_56 rfl (nlt rfl) rfl (L' := [some (.ref (gh (xG X) + a0)), none, none, some (.int s13.2), some (.int s13.2)]) rfl ?_
              exact s_drop (hj30 s13.2 Le.rf) (And.intro rfl (And.intro rfl (And.intro rfl trivial)))
    · refine s_iconst (pc := 16) (-1) dX12_likely_16 kc_m1 ?_
      exact s_iret rfl dX12_likely_17
