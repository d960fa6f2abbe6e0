set_option maxRecDepth 100000 in
set_option maxHeartbeats 8000000 in
noncomputable def f_X12_parts (M : Mem) (a0 : Nat) (p1 : Int32) (p2 : Int32) : Option Mem :=
  Option.bind (loopO (σ := Mem × Int32) (ρ := Mem) (fun s1 => if 9331 ≤ s1.2 then (some (.inr s1.1)) else (grd (okO s1.1 12 a0) (Option.bind (mR s1.1 a0 44) (fun r10 => grd (okO s1.1 15 r10) (grd (vp_in s1.2 (mL s1.1 r10)) (bv (wJ s1.1 r10 s1.2.toNatClampNeg 0) (fun M13 => bv (s1.2 + 1 : Int32) (fun x17 => some (.inl (M13, x17)))))))))) (M, 0)) (fun (x7 : Mem) => grd (okO x7 12 a0) (Option.bind (mR x7 a0 44) (fun r19 => Option.bind (f_X12_placeOf p1) (fun q20 => grd (okO x7 15 r19) (grd (vp_in q20 (mL x7 r19)) (bv (wJ x7 r19 q20.toNatClampNeg 1000000000000) (fun M25 => Option.bind (loopO (σ := Mem × Int32) (ρ := Mem) (fun s29 => if p2 ≤ s29.2 then (some (.inr s29.1)) else (Option.bind (loopO (σ := Mem × Int32) (ρ := Mem) (fun s38 => if 9331 ≤ s38.2 then (some (.inr s38.1)) else (Option.bind (mR s38.1 a0 45) (fun r47 => grd (okO s38.1 15 r47) (grd (vp_in s38.2 (mL s38.1 r47)) (bv (wJ s38.1 r47 s38.2.toNatClampNeg 0) (fun M50 => bv (s38.2 + 1 : Int32) (fun x54 => some (.inl (M50, x54))))))))) (s29.1, 0)) (fun (x45 : Mem) => Option.bind (loopO (σ := Mem × Int32) (ρ := Mem) (fun s56 => if 9331 ≤ s56.2 then (some (.inr s56.1)) else (Option.bind (mR s56.1 a0 44) (fun r65 => grd (okO s56.1 15 r65) (grd (vp_in s56.2 (mL s56.1 r65)) (bv (fun (s69 : Mem) => bv (s56.2 + 1 : Int32) (fun x73 => some (.inl (s69, x73)))) (fun j68 => if (lg_cmp (mJ s56.1 r65 s56.2.toNatClampNeg) 0) = 0 then (j68 s56.1) else (Option.bind (f_X12_dishAt s56.2) (fun q74 => Option.bind (mR s56.1 a0 3) (fun r77 => grd (okO s56.1 14 r77) (grd (vp_in 54 (mL s56.1 r77)) (Option.bind (f_X12_lists s56.1 a0 q74 (mI s56.1 r77 (54 : Int32).toNatClampNeg) 1) (fun q80 => Option.bind (loopO (σ := Int32 × Int32) (ρ := Int32) (fun s85 => if (mI q80 a0 11) ≤ s85.2 then (some (.inr s85.1)) else (Option.bind (mR q80 a0 10) (fun r93 => grd (okO q80 14 r93) (grd (vp_in s85.2 (mL q80 r93)) (bv (s85.1 + (mI q80 r93 s85.2.toNatClampNeg) : Int32) (fun x96 => bv (s85.2 + 1 : Int32) (fun x97 => some (.inl (x96, x97))))))))) (0, 0)) (fun (x91 : Int32) => bv (fun (s99 : Mem) => Option.bind (loopO (σ := Mem × Int32) (ρ := Mem) (fun s103 => if (mI s103.1 a0 11) ≤ s103.2 then (some (.inr s103.1)) else (if x91 ≤ 0 then (some (.inr s103.1)) else (Option.bind (mR s103.1 a0 45) (fun r112 => Option.bind (mR s103.1 a0 9) (fun r113 => grd (okO s103.1 14 r113) (grd (vp_in s103.2 (mL s103.1 r113)) (Option.bind (f_X12_placeOf (mI s103.1 r113 s103.2.toNatClampNeg)) (fun q116 => grd (okO s103.1 15 r112) (grd (vp_in q116 (mL s103.1 r112)) (Option.bind (mR s103.1 a0 44) (fun r121 => grd (okO s103.1 15 r121) (grd (vp_in s56.2 (mL s103.1 r121)) (Option.bind (mR s103.1 a0 10) (fun r124 => grd (okO s103.1 14 r124) (grd (vp_in s103.2 (mL s103.1 r124)) (grd (¬ x91.toInt64 = 0) (bv (wJ s103.1 r112 q116.toNatClampNeg ((mJ s103.1 r112 q116.toNatClampNeg) + (((mJ s103.1 r121 s56.2.toNatClampNeg) * ((mI s103.1 r124 s103.2.toNatClampNeg).toInt64)) / x91.toInt64))) (fun M128 => bv (s103.2 + 1 : Int32) (fun x132 => some (.inl (M128, x132))))))))))))))))))))) (s99, 0)) (fun (x110 : Mem) => j68 x110)) (fun j98 => if x91 = 0 then (Option.bind (mR q80 a0 45) (fun r134 => grd (okO q80 15 r134) (grd (vp_in s56.2 (mL q80 r134)) (Option.bind (mR q80 a0 44) (fun r137 => grd (okO q80 15 r137) (grd (vp_in s56.2 (mL q80 r137)) (bv (wJ q80 r134 s56.2.toNatClampNeg ((mJ q80 r134 s56.2.toNatClampNeg) + (mJ q80 r137 s56.2.toNatClampNeg))) (fun M140 => j98 M140)))))))) else (j98 q80))))))))))))))) (x45, 0)) (fun (x63 : Mem) => Option.bind (loopO (σ := Mem × Int32) (ρ := Mem) (fun s145 => if 9331 ≤ s145.2 then (some (.inr s145.1)) else (Option.bind (mR s145.1 a0 44) (fun r154 => Option.bind (mR s145.1 a0 45) (fun r155 => grd (okO s145.1 15 r155) (grd (vp_in s145.2 (mL s145.1 r155)) (grd (okO s145.1 15 r154) (grd (vp_in s145.2 (mL s145.1 r154)) (bv (wJ s145.1 r154 s145.2.toNatClampNeg (mJ s145.1 r155 s145.2.toNatClampNeg)) (fun M160 => bv (s145.2 + 1 : Int32) (fun x164 => some (.inl (M160, x164)))))))))))) (x63, 0)) (fun (x152 : Mem) => bv (s29.2 + 1 : Int32) (fun x166 => some (.inl (x152, x166)))))))) (M25, 0)) (fun (x36 : Mem) => some x36))))))))
abbrev Y_X12_parts : Sta := (RX12, "parts", cX12_parts, 7, none, 208)
set_option maxRecDepth 100000 in
set_option maxHeartbeats 8000000 in
theorem t_X12_parts {l : Launch} {G : Gh} {M : Mem} {a0 : Nat} {p1 : Int32} {p2 : Int32} {q : Mem} (h : f_X12_parts M a0 p1 p2 = some q) : Ctr l G yX12_parts Y_X12_parts M [.ref (gh G + a0), .int p1, .int p2] q (none) := by
  refine Ctr.of (Y := Y_X12_parts) (L := [some (.ref (gh G + a0)), some (.int p1), some (.int p2), none, none, none, none]) (t := Option.bind (f_X12_parts M a0 p1 p2) (fun q => some (q, (none : Option Value)))) (by decide) rfl rfl (nle rfl) (Lof_in 4 _ rfl) (fun X hG hl => ?_) (by rw [h]; rfl)
  subst hG
  subst hl
  unfold f_X12_parts
  refine s_iconst (pc := 0) 0 dX12_parts_0 kc_0 ?_
  refine s_istore_n (pc := 1) 3 dX12_parts_1 rfl (nlt rfl) rfl (L' := [some (.ref (gh (xG X) + a0)), some (.int p1), some (.int p2), some (.int 0), none, none, none]) rfl ?_
  refine s_drop (L' := [some (.ref (gh (xG X) + a0)), some (.int p1), some (.int p2), some (.int 0), none, none, none]) ?_ (And.intro rfl (And.intro rfl (And.intro rfl (And.intro rfl trivial))))
  refine s_loop1 M (fun s1 : Mem × Int32 => s1.1) (fun s1 : Mem × Int32 => [some (.ref (gh (xG X) + a0)), some (.int p1), some (.int p2), some (.int s1.2), none, none, none]) (fun x7 : Mem => x7) 22 (fun x7 : Mem => [some (.ref (gh (xG X) + a0)), some (.int p1), some (.int p2), none, none, none, none]) (fun x7 hx8 => ?_) (fun T3 R5 hT4 hR6 s1 hs2 => ?_) (M, 0) Le.rf
  · show S0 X _ x7 22 [some (.ref (gh (xG X) + a0)), some (.int p1), some (.int p2), none, none, none, none] [] _
    refine s_aload_n (pc := 22) 0 dX12_parts_22 rfl rfl ?_
    refine s_grd (fun o18 => ?_)
    refine s_geto (pc := 23) F_12 44 rfl o18 dX12_parts_23 kf_X12_104 ?_
    refine s_rvB (fun r19 => ?_)
    refine s_iload_n (pc := 26) 1 dX12_parts_26 rfl rfl ?_
    refine s_bind (fun q20 hq21 => ?_)
    have hC22 := t_X12_placeOf (l := xl X) (G := xG X) (M := x7) hq21
    refine s_callS (pc := 27) (As := [.int p1]) (st := [.ref (gh (xG X) + r19)]) cl_X12_placeOf wt_X12_placeOf km_X12_362 rfl rfl (nle rfl) (nle rfl) (nle rfl) dX12_parts_27 hC22 ?_
    show S0 X _ x7 30 [some (.ref (gh (xG X) + a0)), some (.int p1), some (.int p2), none, none, none, none] [.int q20, .ref (gh (xG X) + r19)] _
    refine s_ldc2 (pc := 30) dX12_parts_30 kl_X12_402 ?_
    refine s_grd (fun o23 => ?_)
    refine s_grd (fun i24 => ?_)
    refine s_last (pc := 33) o23 i24 dX12_parts_33 (fun M25 hM26 => ?_)
    have h27 := le_wJ hM26
    have o28 := h27.ok o18
    refine s_iconst (pc := 34) 0 dX12_parts_34 kc_0 ?_
    refine s_istore_n (pc := 35) 3 dX12_parts_35 rfl (nlt rfl) rfl (L' := [some (.ref (gh (xG X) + a0)), some (.int p1), some (.int p2), some (.int 0), none, none, none]) rfl ?_
    refine s_drop (L' := [some (.ref (gh (xG X) + a0)), none, some (.int p2), some (.int 0), none, none, none]) ?_ (And.intro rfl (And.intro rfl (And.intro rfl trivial)))
    refine s_loop1 M25 (fun s29 : Mem × Int32 => s29.1) (fun s29 : Mem × Int32 => [some (.ref (gh (xG X) + a0)), none, some (.int p2), some (.int s29.2), none, none, none]) (fun x36 : Mem => x36) 268 (fun x36 : Mem => [none, none, none, none, none, none, none]) (fun x36 hx37 => ?_) (fun T31 R33 hT32 hR34 s29 hs30 => ?_) (M25, 0) Le.rf
    · show S0 X _ x36 268 [none, none, none, none, none, none, none] [] _
      exact s_vret rfl dX12_parts_268
    · show S0 X _ s29.1 36 [some (.ref (gh (xG X) + a0)), none, some (.int p2), some (.int s29.2), none, none, none] [] _
      have o35 := hs30.ok o28
      refine s_iload_n (pc := 36) 3 dX12_parts_36 rfl rfl ?_
      refine s_iload_n (pc := 37) 2 dX12_parts_37 rfl rfl ?_
      refine s_icge (pc := 38) 268 dX12_parts_38 rfl ?_ ?_
      · exact s_drop (hR34 s29.1 hs30) trivial
      · refine s_iconst (pc := 41) 0 dX12_parts_41 kc_0 ?_
        refine s_istore (pc := 42) dX12_parts_42 (nlt rfl) rfl (L' := [some (.ref (gh (xG X) + a0)), none, some (.int p2), some (.int s29.2), some (.int 0), none, none]) rfl ?_
        refine s_drop (L' := [some (.ref (gh (xG X) + a0)), none, some (.int p2), some (.int s29.2), some (.int 0), none, none]) ?_ (And.intro rfl (And.intro rfl (And.intro rfl (And.intro rfl trivial))))
        refine s_loop1 s29.1 (fun s38 : Mem × Int32 => s38.1) (fun s38 : Mem × Int32 => [some (.ref (gh (xG X) + a0)), none, some (.int p2), some (.int s29.2), some (.int s38.2), none, none]) (fun x45 : Mem => x45) 66 (fun x45 : Mem => [some (.ref (gh (xG X) + a0)), none, some (.int p2), some (.int s29.2), none, none, none]) (fun x45 hx46 => ?_) (fun T40 R42 hT41 hR43 s38 hs39 => ?_) (s29.1, 0) Le.rf
        · show S0 X _ x45 66 [some (.ref (gh (xG X) + a0)), none, some (.int p2), some (.int s29.2), none, none, none] [] _
          have o55 := hx46.ok o35
          refine s_iconst (pc := 66) 0 dX12_parts_66 kc_0 ?_
          refine s_istore (pc := 67) dX12_parts_67 (nlt rfl) rfl (L' := [some (.ref (gh (xG X) + a0)), none, some (.int p2), some (.int s29.2), some (.int 0), none, none]) rfl ?_
          refine s_drop (L' := [some (.ref (gh (xG X) + a0)), none, some (.int p2), some (.int s29.2), some (.int 0), none, none]) ?_ (And.intro rfl (And.intro rfl (And.intro rfl (And.intro rfl trivial))))
          refine s_loop1 x45 (fun s56 : Mem × Int32 => s56.1) (fun s56 : Mem × Int32 => [some (.ref (gh (xG X) + a0)), none, some (.int p2), some (.int s29.2), some (.int s56.2), none, none]) (fun x63 : Mem => x63) 231 (fun x63 : Mem => [some (.ref (gh (xG X) + a0)), none, some (.int p2), some (.int s29.2), none, none, none]) (fun x63 hx64 => ?_) (fun T58 R60 hT59 hR61 s56 hs57 => ?_) (x45, 0) Le.rf
          · show S0 X _ x63 231 [some (.ref (gh (xG X) + a0)), none, some (.int p2), some (.int s29.2), none, none, none] [] _
            have o144 := hx64.ok o55
            refine s_iconst (pc := 231) 0 dX12_parts_231 kc_0 ?_
            refine s_istore (pc := 232) dX12_parts_232 (nlt rfl) rfl (L' := [some (.ref (gh (xG X) + a0)), none, some (.int p2), some (.int s29.2), some (.int 0), none, none]) rfl ?_
            refine s_drop (L' := [some (.ref (gh (xG X) + a0)), none, some (.int p2), some (.int s29.2), some (.int 0), none, none]) ?_ (And.intro rfl (And.intro rfl (And.intro rfl (And.intro rfl trivial))))
            refine s_loop1 x63 (fun s145 : Mem × Int32 => s145.1) (fun s145 : Mem × Int32 => [some (.ref (gh (xG X) + a0)), none, some (.int p2), some (.int s29.2), some (.int s145.2), none, none]) (fun x152 : Mem => x152) 262 (fun x152 : Mem => [some (.ref (gh (xG X) + a0)), none, some (.int p2), some (.int s29.2), none, none, none]) (fun x152 hx153 => ?_) (fun T147 R149 hT148 hR150 s145 hs146 => ?_) (x63, 0) Le.rf
            · show S0 X _ x152 262 [some (.ref (gh (xG X) + a0)), none, some (.int p2), some (.int s29.2), none, none, none] [] _
              have o165 := hx153.ok o144
              refine s_iinc (pc := 262) dX12_parts_262 rfl (v := s29.2 + 1) (congrArg (fun z : Int32 => s29.2 + z) kc_1) (nlt rfl) rfl (L' := [some (.ref (gh (xG X) + a0)), none, some (.int p2), some (.int (s29.2 + 1)), none, none, none]) rfl ?_
              refine s_bv (fun x166 : Int32 => [some (.ref (gh (xG X) + a0)), none, some (.int p2), some (.int x166), none, none, none]) (fun x166 => ?_) rfl
              refine s_goto (pc := 265) 36 dX12_parts_265 rfl ?_
              exact s_drop (hT32 (x152, x166) (hs30.tr (hx46.tr (hx64.tr hx153)))) (And.intro rfl (And.intro rfl (And.intro rfl trivial)))
            · show S0 X _ s145.1 234 [some (.ref (gh (xG X) + a0)), none, some (.int p2), some (.int s29.2), some (.int s145.2), none, none] [] _
              have o151 := hs146.ok o144
              refine s_iload (pc := 234) dX12_parts_234 rfl ?_
              refine s_sipush (pc := 236) 9331 dX12_parts_236 ks_9331 ?_
              refine s_icge (pc := 239) 262 dX12_parts_239 rfl ?_ ?_
              · exact s_drop (hR150 s145.1 hs146) (And.intro rfl (And.intro rfl (And.intro rfl trivial)))
              · refine s_aload_n (pc := 242) 0 dX12_parts_242 rfl rfl ?_
                refine s_geto (pc := 243) F_12 44 rfl o151 dX12_parts_243 kf_X12_104 ?_
                refine s_rvB (fun r154 => ?_)
                refine s_iload (pc := 246) dX12_parts_246 rfl ?_
                refine s_aload_n (pc := 248) 0 dX12_parts_248 rfl rfl ?_
                refine s_geto (pc := 249) F_12 45 rfl o151 dX12_parts_249 kf_X12_108 ?_
                refine s_rvB (fun r155 => ?_)
                refine s_iload (pc := 252) dX12_parts_252 rfl ?_
                refine s_grd (fun o156 => ?_)
                refine s_grd (fun i157 => ?_)
                refine s_lald (pc := 254) o156 i157 dX12_parts_254 ?_
                refine s_grd (fun o158 => ?_)
                refine s_grd (fun i159 => ?_)
                refine s_last (pc := 255) o158 i159 dX12_parts_255 (fun M160 hM161 => ?_)
                have h162 := le_wJ hM161
                have o163 := h162.ok o151
                refine s_iinc (pc := 256) dX12_parts_256 rfl (v := s145.2 + 1) (congrArg (fun z : Int32 => s145.2 + z) kc_1) (nlt rfl) rfl (L' := [some (.ref (gh (xG X) + a0)), none, some (.int p2), some (.int s29.2), some (.int (s145.2 + 1)), none, none]) rfl ?_
                refine s_bv (fun x164 : Int32 => [some (.ref (gh (xG X) + a0)), none, some (.int p2), some (.int s29.2), some (.int x164), none, none]) (fun x164 => ?_) rfl
                refine s_goto (pc := 259) 234 dX12_parts_259 rfl ?_
                exact s_drop (hT148 (M160, x164) (hs146.tr h162)) (And.intro rfl (And.intro rfl (And.intro rfl (And.intro rfl trivial))))
          · show S0 X _ s56.1 69 [some (.ref (gh (xG X) + a0)), none, some (.int p2), some (.int s29.2), some (.int s56.2), none, none] [] _
            have o62 := hs57.ok o55
            refine s_iload (pc := 69) dX12_parts_69 rfl ?_
            refine s_sipush (pc := 71) 9331 dX12_parts_71 ks_9331 ?_
            refine s_icge (pc := 74) 231 dX12_parts_74 rfl ?_ ?_
            · exact s_drop (hR61 s56.1 hs57) (And.intro rfl (And.intro rfl (And.intro rfl trivial)))
            · refine s_aload_n (pc := 77) 0 dX12_parts_77 rfl rfl ?_
              refine s_geto (pc := 78) F_12 44 rfl o62 dX12_parts_78 kf_X12_104 ?_
              refine s_rvB (fun r65 => ?_)
              refine s_iload (pc := 81) dX12_parts_81 rfl ?_
              refine s_grd (fun o66 => ?_)
              refine s_grd (fun i67 => ?_)
              refine s_lald (pc := 83) o66 i67 dX12_parts_83 ?_
              refine s_lconst (pc := 84) 0 dX12_parts_84 kl_0 ?_
              refine s_lcmp (pc := 85) dX12_parts_85 ?_
              refine s_join s56.1 (fun s69 : Mem => s69) 225 (fun s69 : Mem => [some (.ref (gh (xG X) + a0)), none, some (.int p2), some (.int s29.2), some (.int s56.2), none, none]) (fun s69 : Mem => []) (fun s69 hs70 => ?_) (fun j68 hj71 => ?_)
              · show S0 X _ s69 225 [some (.ref (gh (xG X) + a0)), none, some (.int p2), some (.int s29.2), some (.int s56.2), none, none] [] _
                have o72 := hs70.ok o62
                refine s_iinc (pc := 225) dX12_parts_225 rfl (v := s56.2 + 1) (congrArg (fun z : Int32 => s56.2 + z) kc_1) (nlt rfl) rfl (L' := [some (.ref (gh (xG X) + a0)), none, some (.int p2), some (.int s29.2), some (.int (s56.2 + 1)), none, none]) rfl ?_
                refine s_bv (fun x73 : Int32 => [some (.ref (gh (xG X) + a0)), none, some (.int p2), some (.int s29.2), some (.int x73), none, none]) (fun x73 => ?_) rfl
                refine s_goto (pc := 228) 69 dX12_parts_228 rfl ?_
                exact s_drop (hT59 (s69, x73) (hs57.tr hs70)) (And.intro rfl (And.intro rfl (And.intro rfl (And.intro rfl trivial))))
              · refine s_ifne (pc := 86) 92 dX12_parts_86 rfl ?_ ?_
                · refine s_aload_n (pc := 92) 0 dX12_parts_92 rfl rfl ?_
                  refine s_iload (pc := 93) dX12_parts_93 rfl ?_
                  refine s_bind (fun q74 hq75 => ?_)
                  have hC76 := t_X12_dishAt (l := xl X) (G := xG X) (M := s56.1) hq75
                  refine s_callS (pc := 95) (As := [.int s56.2]) (st := [.ref (gh (xG X) + a0)]) cl_X12_dishAt wt_X12_dishAt km_X12_359 rfl rfl (nle rfl) (nle rfl) (nle rfl) dX12_parts_95 hC76 ?_
                  show S0 X _ s56.1 98 [some (.ref (gh (xG X) + a0)), none, some (.int p2), some (.int s29.2), some (.int s56.2), none, none] [.int q74, .ref (gh (xG X) + a0)] _
                  refine s_aload_n (pc := 98) 0 dX12_parts_98 rfl rfl ?_
                  refine s_geto (pc := 99) F_12 3 rfl o62 dX12_parts_99 kf_X12_20 ?_
                  refine s_rvB (fun r77 => ?_)
                  refine s_bipush (pc := 102) 54 dX12_parts_102 kb_54 ?_
                  refine s_grd (fun o78 => ?_)
                  refine s_grd (fun i79 => ?_)
                  refine s_iald (pc := 104) o78 i79 dX12_parts_104 ?_
                  refine s_iconst (pc := 105) 1 dX12_parts_105 kc_1 ?_
                  refine s_bind (fun q80 hq81 => ?_)
                  have hC82 := t_X12_lists (l := xl X) (G := xG X) hq81
                  refine s_callV (pc := 106) (As := [.int q74, .int (mI s56.1 r77 (54 : Int32).toNatClampNeg), .int 1]) (st := []) (nlt rfl) (q := (RX12, TX12, 59)) rfl rfl o62 cl_X12_lists wi_X12_lists wl_X12_lists km_X12_187 rfl rfl (nle rfl) (nle rfl) (nle rfl) dX12_parts_106 hC82 ?_
                  have h83 := hC82.1 X
                  have o84 := h83.ok o62
                  show S0 X _ q80 109 [some (.ref (gh (xG X) + a0)), none, some (.int p2), some (.int s29.2), some (.int s56.2), none, none] [] _
                  refine s_iconst (pc := 109) 0 dX12_parts_109 kc_0 ?_
                  refine s_istore (pc := 110) dX12_parts_110 (nlt rfl) rfl (L' := [some (.ref (gh (xG X) + a0)), none, some (.int p2), some (.int s29.2), some (.int s56.2), some (.int 0), none]) rfl ?_
                  refine s_iconst (pc := 112) 0 dX12_parts_112 kc_0 ?_
                  refine s_istore (pc := 113) dX12_parts_113 (nlt rfl) rfl (L' := [some (.ref (gh (xG X) + a0)), none, some (.int p2), some (.int s29.2), some (.int s56.2), some (.int 0), some (.int 0)]) rfl ?_
                  refine s_drop (L' := [some (.ref (gh (xG X) + a0)), none, some (.int p2), some (.int s29.2), some (.int s56.2), some (.int 0), some (.int 0)]) ?_ (And.intro rfl (And.intro rfl (And.intro rfl (And.intro rfl (And.intro rfl (And.intro rfl trivial))))))
                  refine s_loop1 q80 (fun s85 : Int32 × Int32 => q80) (fun s85 : Int32 × Int32 => [some (.ref (gh (xG X) + a0)), none, some (.int p2), some (.int s29.2), some (.int s56.2), some (.int s85.1), some (.int s85.2)]) (fun x91 : Int32 => q80) 142 (fun x91 : Int32 => [some (.ref (gh (xG X) + a0)), none, some (.int p2), some (.int s29.2), some (.int s56.2), some (.int x91), none]) (fun x91 hx92 => ?_) (fun T87 R89 hT88 hR90 s85 hs86 => ?_) (0, 0) Le.rf
                  · show S0 X _ q80 142 [some (.ref (gh (xG X) + a0)), none, some (.int p2), some (.int s29.2), some (.int s56.2), some (.int x91), none] [] _
                    refine s_iload (pc := 142) dX12_parts_142 rfl ?_
                    refine s_join q80 (fun s99 : Mem => s99) 164 (fun s99 : Mem => [some (.ref (gh (xG X) + a0)), none, some (.int p2), some (.int s29.2), some (.int s56.2), some (.int x91), none]) (fun s99 : Mem => []) (fun s99 hs100 => ?_) (fun j98 hj101 => ?_)
                    · show S0 X _ s99 164 [some (.ref (gh (xG X) + a0)), none, some (.int p2), some (.int s29.2), some (.int s56.2), some (.int x91), none] [] _
                      have o102 := hs100.ok o84
                      refine s_iconst (pc := 164) 0 dX12_parts_164 kc_0 ?_
                      refine s_istore (pc := 165) dX12_parts_165 (nlt rfl) rfl (L' := [some (.ref (gh (xG X) + a0)), none, some (.int p2), some (.int s29.2), some (.int s56.2), some (.int x91), some (.int 0)]) rfl ?_
                      refine s_drop (L' := [some (.ref (gh (xG X) + a0)), none, some (.int p2), some (.int s29.2), some (.int s56.2), some (.int x91), some (.int 0)]) ?_ (And.intro rfl (And.intro rfl (And.intro rfl (And.intro rfl (And.intro rfl (And.intro rfl trivial))))))
                      refine s_loop1 s99 (fun s103 : Mem × Int32 => s103.1) (fun s103 : Mem × Int32 => [some (.ref (gh (xG X) + a0)), none, some (.int p2), some (.int s29.2), some (.int s56.2), some (.int x91), some (.int s103.2)]) (fun x110 : Mem => x110) 225 (fun x110 : Mem => [some (.ref (gh (xG X) + a0)), none, some (.int p2), some (.int s29.2), some (.int s56.2), none, none]) (fun x110 hx111 => ?_) (fun T105 R107 hT106 hR108 s103 hs104 => ?_) (s99, 0) Le.rf
                      · show S0 X _ x110 225 [some (.ref (gh (xG X) + a0)), none, some (.int p2), some (.int s29.2), some (.int s56.2), none, none] [] _
                        have o133 := hx111.ok o102
                        exact s_drop (hj71 x110 (h83.tr (hs100.tr hx111))) (And.intro rfl (And.intro rfl (And.intro rfl (And.intro rfl trivial))))
                      · show S0 X _ s103.1 167 [some (.ref (gh (xG X) + a0)), none, some (.int p2), some (.int s29.2), some (.int s56.2), some (.int x91), some (.int s103.2)] [] _
                        have o109 := hs104.ok o102
                        refine s_iload (pc := 167) dX12_parts_167 rfl ?_
                        refine s_aload_n (pc := 169) 0 dX12_parts_169 rfl rfl ?_
                        refine s_geti (pc := 170) F_12 11 rfl o109 dX12_parts_170 kf_X12_174 ?_
                        refine s_icge (pc := 173) 225 dX12_parts_173 rfl ?_ ?_
                        · exact s_drop (hR108 s103.1 hs104) (And.intro rfl (And.intro rfl (And.intro rfl (And.intro rfl trivial))))
                        · refine s_iload (pc := 176) dX12_parts_176 rfl ?_
                          refine s_ifle (pc := 178) 225 dX12_parts_178 rfl ?_ ?_
                          · exact s_drop (hR108 s103.1 hs104) (And.intro rfl (And.intro rfl (And.intro rfl (And.intro rfl trivial))))
                          · refine s_aload_n (pc := 181) 0 dX12_parts_181 rfl rfl ?_
                            refine s_geto (pc := 182) F_12 45 rfl o109 dX12_parts_182 kf_X12_108 ?_
                            refine s_rvB (fun r112 => ?_)
                            refine s_aload_n (pc := 185) 0 dX12_parts_185 rfl rfl ?_
                            refine s_geto (pc := 186) F_12 9 rfl o109 dX12_parts_186 kf_X12_33 ?_
                            refine s_rvB (fun r113 => ?_)
                            refine s_iload (pc := 189) dX12_parts_189 rfl ?_
                            refine s_grd (fun o114 => ?_)
                            refine s_grd (fun i115 => ?_)
                            refine s_iald (pc := 191) o114 i115 dX12_parts_191 ?_
                            refine s_bind (fun q116 hq117 => ?_)
                            have hC118 := t_X12_placeOf (l := xl X) (G := xG X) (M := s103.1) hq117
                            refine s_callS (pc := 192) (As := [.int (mI s103.1 r113 s103.2.toNatClampNeg)]) (st := [.ref (gh (xG X) + r112)]) cl_X12_placeOf wt_X12_placeOf km_X12_362 rfl rfl (nle rfl) (nle rfl) (nle rfl) dX12_parts_192 hC118 ?_
                            show S0 X _ s103.1 195 [some (.ref (gh (xG X) + a0)), none, some (.int p2), some (.int s29.2), some (.int s56.2), some (.int x91), some (.int s103.2)] [.int q116, .ref (gh (xG X) + r112)] _
                            refine s_dup2 (pc := 195) dX12_parts_195 rfl rfl ?_
                            refine s_grd (fun o119 => ?_)
                            refine s_grd (fun i120 => ?_)
                            refine s_lald (pc := 196) o119 i120 dX12_parts_196 ?_
                            refine s_aload_n (pc := 197) 0 dX12_parts_197 rfl rfl ?_
                            refine s_geto (pc := 198) F_12 44 rfl o109 dX12_parts_198 kf_X12_104 ?_
                            refine s_rvB (fun r121 => ?_)
                            refine s_iload (pc := 201) dX12_parts_201 rfl ?_
                            refine s_grd (fun o122 => ?_)
                            refine s_grd (fun i123 => ?_)
                            refine s_lald (pc := 203) o122 i123 dX12_parts_203 ?_
                            refine s_aload_n (pc := 204) 0 dX12_parts_204 rfl rfl ?_
                            refine s_geto (pc := 205) F_12 10 rfl o109 dX12_parts_205 kf_X12_36 ?_
                            refine s_rvB (fun r124 => ?_)
                            refine s_iload (pc := 208) dX12_parts_208 rfl ?_
                            refine s_grd (fun o125 => ?_)
                            refine s_grd (fun i126 => ?_)
                            refine s_iald (pc := 210) o125 i126 dX12_parts_210 ?_
                            refine s_i2l (pc := 211) dX12_parts_211 ?_
                            refine s_lmul (pc := 212) dX12_parts_212 ?_
                            refine s_iload (pc := 213) dX12_parts_213 rfl ?_
                            refine s_i2l (pc := 215) dX12_parts_215 ?_
                            refine s_grd (fun g127 => ?_)
                            refine s_ldiv (pc := 216) dX12_parts_216 g127 ?_
                            refine s_ladd (pc := 217) dX12_parts_217 ?_
                            refine s_last (pc := 218) o119 i120 dX12_parts_218 (fun M128 hM129 => ?_)
                            have h130 := le_wJ hM129
                            have o131 := h130.ok o109
                            refine s_iinc (pc := 219) dX12_parts_219 rfl (v := s103.2 + 1) (congrArg (fun z : Int32 => s103.2 + z) kc_1) (nlt rfl) rfl (L' := [some (.ref (gh (xG X) + a0)), none, some (.int p2), some (.int s29.2), some (.int s56.2), some (.int x91), some (.int (s103.2 + 1))]) rfl ?_
                            refine s_bv (fun x132 : Int32 => [some (.ref (gh (xG X) + a0)), none, some (.int p2), some (.int s29.2), some (.int s56.2), some (.int x91), some (.int x132)]) (fun x132 => ?_) rfl
                            refine s_goto (pc := 222) 167 dX12_parts_222 rfl ?_
                            exact s_drop (hT106 (M128, x132) (hs104.tr h130)) (And.intro rfl (And.intro rfl (And.intro rfl (And.intro rfl (And.intro rfl (And.intro rfl trivial))))))
                    · refine s_ifne (pc := 144) 164 dX12_parts_144 rfl ?_ ?_
                      · exact s_drop (hj101 q80 Le.rf) (And.intro rfl (And.intro rfl (And.intro rfl (And.intro rfl (And.intro rfl trivial)))))
                      · refine s_aload_n (pc := 147) 0 dX12_parts_147 rfl rfl ?_
                        refine s_geto (pc := 148) F_12 45 rfl o84 dX12_parts_148 kf_X12_108 ?_
                        refine s_rvB (fun r134 => ?_)
                        refine s_iload (pc := 151) dX12_parts_151 rfl ?_
                        refine s_dup2 (pc := 153) dX12_parts_153 rfl rfl ?_
                        refine s_grd (fun o135 => ?_)
                        refine s_grd (fun i136 => ?_)
                        refine s_lald (pc := 154) o135 i136 dX12_parts_154 ?_
                        refine s_aload_n (pc := 155) 0 dX12_parts_155 rfl rfl ?_
                        refine s_geto (pc := 156) F_12 44 rfl o84 dX12_parts_156 kf_X12_104 ?_
                        refine s_rvB (fun r137 => ?_)
                        refine s_iload (pc := 159) dX12_parts_159 rfl ?_
                        refine s_grd (fun o138 => ?_)
                        refine s_grd (fun i139 => ?_)
                        refine s_lald (pc := 161) o138 i139 dX12_parts_161 ?_
                        refine s_ladd (pc := 162) dX12_parts_162 ?_
                        refine s_last (pc := 163) o135 i136 dX12_parts_163 (fun M140 hM141 => ?_)
                        have h142 := le_wJ hM141
                        have o143 := h142.ok o84
                        exact s_drop (hj101 M140 h142) (And.intro rfl (And.intro rfl (And.intro rfl (And.intro rfl (And.intro rfl trivial)))))
                  · show S0 X _ q80 115 [some (.ref (gh (xG X) + a0)), none, some (.int p2), some (.int s29.2), some (.int s56.2), some (.int s85.1), some (.int s85.2)] [] _
                    refine s_iload (pc := 115) dX12_parts_115 rfl ?_
                    refine s_aload_n (pc := 117) 0 dX12_parts_117 rfl rfl ?_
                    refine s_geti (pc := 118) F_12 11 rfl o84 dX12_parts_118 kf_X12_174 ?_
                    refine s_icge (pc := 121) 142 dX12_parts_121 rfl ?_ ?_
                    · exact s_drop (hR90 s85.1 Le.rf) (And.intro rfl (And.intro rfl (And.intro rfl (And.intro rfl (And.intro rfl trivial)))))
                    · refine s_iload (pc := 124) dX12_parts_124 rfl ?_
                      refine s_aload_n (pc := 126) 0 dX12_parts_126 rfl rfl ?_
                      refine s_geto (pc := 127) F_12 10 rfl o84 dX12_parts_127 kf_X12_36 ?_
                      refine s_rvB (fun r93 => ?_)
                      refine s_iload (pc := 130) dX12_parts_130 rfl ?_
                      refine s_grd (fun o94 => ?_)
                      refine s_grd (fun i95 => ?_)
                      refine s_iald (pc := 132) o94 i95 dX12_parts_132 ?_
                      refine s_iadd (pc := 133) dX12_parts_133 ?_
                      refine s_istore (pc := 134) dX12_parts_134 (nlt rfl) rfl (L' := [some (.ref (gh (xG X) + a0)), none, some (.int p2), some (.int s29.2), some (.int s56.2), some (.int (s85.1 + (mI q80 r93 s85.2.toNatClampNeg))), some (.int s85.2)]) rfl ?_
                      refine s_bv (fun x96 : Int32 => [some (.ref (gh (xG X) + a0)), none, some (.int p2), some (.int s29.2), some (.int s56.2), some (.int x96), some (.int s85.2)]) (fun x96 => ?_) rfl
                      refine s_iinc (pc := 136) dX12_parts_136 rfl (v := s85.2 + 1) (congrArg (fun z : Int32 => s85.2 + z) kc_1) (nlt rfl) rfl (L' := [some (.ref (gh (xG X) + a0)), none, some (.int p2), some (.int s29.2), some (.int s56.2), some (.int x96), some (.int (s85.2 + 1))]) rfl ?_
                      refine s_bv (fun x97 : Int32 => [some (.ref (gh (xG X) + a0)), none, some (.int p2), some (.int s29.2), some (.int s56.2), some (.int x96), some (.int x97)]) (fun x97 => ?_) rfl
                      refine s_goto (pc := 139) 115 dX12_parts_139 rfl ?_
                      exact s_drop (hT88 (x96, x97) Le.rf) (And.intro rfl (And.intro rfl (And.intro rfl (And.intro rfl (And.intro rfl (And.intro rfl trivial))))))
                · refine s_goto (pc := 89) 225 dX12_parts_89 rfl ?_
                  exact s_drop (hj71 s56.1 Le.rf) (And.intro rfl (And.intro rfl (And.intro rfl (And.intro rfl trivial))))
        · show S0 X _ s38.1 44 [some (.ref (gh (xG X) + a0)), none, some (.int p2), some (.int s29.2), some (.int s38.2), none, none] [] _
          have o44 := hs39.ok o35
          refine s_iload (pc := 44) dX12_parts_44 rfl ?_
          refine s_sipush (pc := 46) 9331 dX12_parts_46 ks_9331 ?_
          refine s_icge (pc := 49) 66 dX12_parts_49 rfl ?_ ?_
          · exact s_drop (hR43 s38.1 hs39) (And.intro rfl (And.intro rfl (And.intro rfl trivial)))
          · refine s_aload_n (pc := 52) 0 dX12_parts_52 rfl rfl ?_
            refine s_geto (pc := 53) F_12 45 rfl o44 dX12_parts_53 kf_X12_108 ?_
            refine s_rvB (fun r47 => ?_)
            refine s_iload (pc := 56) dX12_parts_56 rfl ?_
            refine s_lconst (pc := 58) 0 dX12_parts_58 kl_0 ?_
            refine s_grd (fun o48 => ?_)
            refine s_grd (fun i49 => ?_)
            refine s_last (pc := 59) o48 i49 dX12_parts_59 (fun M50 hM51 => ?_)
            have h52 := le_wJ hM51
            have o53 := h52.ok o44
            refine s_iinc (pc := 60) dX12_parts_60 rfl (v := s38.2 + 1) (congrArg (fun z : Int32 => s38.2 + z) kc_1) (nlt rfl) rfl (L' := [some (.ref (gh (xG X) + a0)), none, some (.int p2), some (.int s29.2), some (.int (s38.2 + 1)), none, none]) rfl ?_
            refine s_bv (fun x54 : Int32 => [some (.ref (gh (xG X) + a0)), none, some (.int p2), some (.int s29.2), some (.int x54), none, none]) (fun x54 => ?_) rfl
            refine s_goto (pc := 63) 44 dX12_parts_63 rfl ?_
            exact s_drop (hT41 (M50, x54) (hs39.tr h52)) (And.intro rfl (And.intro rfl (And.intro rfl (And.intro rfl trivial))))
  · show S0 X _ s1.1 2 [some (.ref (gh (xG X) + a0)), some (.int p1), some (.int p2), some (.int s1.2), none, none, none] [] _
    refine s_iload_n (pc := 2) 3 dX12_parts_2 rfl rfl ?_
    refine s_sipush (pc := 3) 9331 dX12_parts_3 ks_9331 ?_
    refine s_icge (pc := 6) 22 dX12_parts_6 rfl ?_ ?_
    · exact s_drop (hR6 s1.1 hs2) (And.intro rfl (And.intro rfl (And.intro rfl trivial)))
    · refine s_aload_n (pc := 9) 0 dX12_parts_9 rfl rfl ?_
      refine s_grd (fun o9 => ?_)
      refine s_geto (pc := 10) F_12 44 rfl o9 dX12_parts_10 kf_X12_104 ?_
      refine s_rvB (fun r10 => ?_)
      refine s_iload_n (pc := 13) 3 dX12_parts_13 rfl rfl ?_
      refine s_lconst (pc := 14) 0 dX12_parts_14 kl_0 ?_
      refine s_grd (fun o11 => ?_)
      refine s_grd (fun i12 => ?_)
      refine s_last (pc := 15) o11 i12 dX12_parts_15 (fun M13 hM14 => ?_)
      have h15 := le_wJ hM14
      have o16 := h15.ok o9
      refine s_iinc (pc := 16) dX12_parts_16 rfl (v := s1.2 + 1) (congrArg (fun z : Int32 => s1.2 + z) kc_1) (nlt rfl) rfl (L' := [some (.ref (gh (xG X) + a0)), some (.int p1), some (.int p2), some (.int (s1.2 + 1)), none, none, none]) rfl ?_
      refine s_bv (fun x17 : Int32 => [some (.ref (gh (xG X) + a0)), some (.int p1), some (.int p2), some (.int x17), none, none, none]) (fun x17 => ?_) rfl
      refine s_goto (pc := 19) 2 dX12_parts_19 rfl ?_
      exact s_drop (hT4 (M13, x17) (hs2.tr h15)) (And.intro rfl (And.intro rfl (And.intro rfl (And.intro rfl trivial))))
set_option maxRecDepth 100000 in
set_option maxHeartbeats 8000000 in
noncomputable def f_X12_reads (M : Mem) (a0 : Nat) : Option (Mem × Int32) :=
  grd (okO M 12 a0) (Option.bind (f_X12_splits M a0 (mI M a0 17)) (fun q2 => bv (wI q2 a0 17 0) (fun M7 => bv (wI M7 a0 23 0) (fun M11 => bv (wI M11 a0 24 0) (fun M15 => bv (wI M15 a0 25 (-1)) (fun M19 => Option.bind (f_X12_readOne M19 a0) (fun q23 => Option.bind (loopO (σ := Mem × Int32) (ρ := Mem) (fun s28 => Option.bind (f_X12_sign 59) (fun q37 => Option.bind (f_X12_takes0 s28.1 a0 q37) (fun q40 => if q40.2 = 0 then (some (.inr q40.1)) else (bv (fun (s46 : Mem) => Option.bind (f_X12_fine s46 a0) (fun q50 => bv (fun (s54 : Mem) => bv (s28.2 + 1 : Int32) (fun x58 => some (.inl (s54, x58)))) (fun j53 => if q50 = 0 then (j53 s46) else (Option.bind (f_X12_readOne s46 a0) (fun q59 => j53 q59))))) (fun j45 => if s28.2 = 12 then (Option.bind (f_X12_faults q40.1 a0) (fun q64 => j45 q64)) else (j45 q40.1)))))) (q23, 1)) (fun (x35 : Mem) => Option.bind (f_X12_fine x35 a0) (fun q70 => bv (fun (s74 : Mem) => bv (wI s74 a0 18 (mI s74 a0 25)) (fun M78 => Option.bind (f_X12_fine M78 a0) (fun q82 => grd (bl q82) (some (M78, q82))))) (fun j73 => if q70 = 0 then (j73 x35) else (if (mI x35 a0 22) ≤ (mI x35 a0 23) then (j73 x35) else (Option.bind (f_X12_faults x35 a0) (fun q86 => j73 q86)))))))))))))
abbrev Y_X12_reads : Sta := (RX12, "reads", cX12_reads, 2, (some .boolean), 208)
set_option maxRecDepth 100000 in
set_option maxHeartbeats 8000000 in
theorem t_X12_reads {l : Launch} {G : Gh} {M : Mem} {a0 : Nat} {q : Mem × Int32} (h : f_X12_reads M a0 = some q) : Ctr l G yX12_reads Y_X12_reads M [.ref (gh G + a0)] q.1 (some (.int q.2)) := by
  refine Ctr.of (Y := Y_X12_reads) (L := [some (.ref (gh G + a0)), none]) (t := Option.bind (f_X12_reads M a0) (fun q => some (q.1, some (.int q.2)))) (by decide) rfl rfl (nle rfl) (Lof_in 1 _ rfl) (fun X hG hl => ?_) (by rw [h]; rfl)
  subst hG
  subst hl
  unfold f_X12_reads
  refine s_aload_n (pc := 0) 0 dX12_reads_0 rfl rfl ?_
  refine s_aload_n (pc := 1) 0 dX12_reads_1 rfl rfl ?_
  refine s_grd (fun o1 => ?_)
  refine s_geti (pc := 2) F_12 17 rfl o1 dX12_reads_2 kf_X12_211 ?_
  refine s_bind (fun q2 hq3 => ?_)
  have hC4 := t_X12_splits (l := xl X) (G := xG X) hq3
  refine s_callV (pc := 5) (As := [.int (mI M a0 17)]) (st := []) (nlt rfl) (q := (RX12, TX12, 59)) rfl rfl o1 cl_X12_splits wi_X12_splits wl_X12_splits km_X12_294 rfl rfl (nle rfl) (nle rfl) (nle rfl) dX12_reads_5 hC4 ?_
  have h5 := hC4.1 X
  have o6 := h5.ok o1
  show S0 X _ q2 8 [some (.ref (gh (xG X) + a0)), none] [] _
  refine s_aload_n (pc := 8) 0 dX12_reads_8 rfl rfl ?_
  refine s_iconst (pc := 9) 0 dX12_reads_9 kc_0 ?_
  refine s_puti (pc := 10) F_12 17 rfl o6 rfl rfl rfl dX12_reads_10 kf_X12_211 (fun M7 hM8 => ?_)
  have h9 := le_wI hM8
  have o10 := h9.ok o6
  refine s_aload_n (pc := 13) 0 dX12_reads_13 rfl rfl ?_
  refine s_iconst (pc := 14) 0 dX12_reads_14 kc_0 ?_
  refine s_puti (pc := 15) F_12 23 rfl o10 rfl rfl rfl dX12_reads_15 kf_X12_237 (fun M11 hM12 => ?_)
  have h13 := le_wI hM12
  have o14 := h13.ok o10
  refine s_aload_n (pc := 18) 0 dX12_reads_18 rfl rfl ?_
  refine s_iconst (pc := 19) 0 dX12_reads_19 kc_0 ?_
  refine s_puti (pc := 20) F_12 24 rfl o14 rfl rfl rfl dX12_reads_20 kf_X12_246 (fun M15 hM16 => ?_)
  have h17 := le_wI hM16
  have o18 := h17.ok o14
  refine s_aload_n (pc := 23) 0 dX12_reads_23 rfl rfl ?_
  refine s_iconst (pc := 24) (-1) dX12_reads_24 kc_m1 ?_
  refine s_puti (pc := 25) F_12 25 rfl o18 rfl rfl rfl dX12_reads_25 kf_X12_230 (fun M19 hM20 => ?_)
  have h21 := le_wI hM20
  have o22 := h21.ok o18
  refine s_aload_n (pc := 28) 0 dX12_reads_28 rfl rfl ?_
  refine s_bind (fun q23 hq24 => ?_)
  have hC25 := t_X12_readOne (l := xl X) (G := xG X) hq24
  refine s_callV (pc := 29) (As := []) (st := []) (nlt rfl) (q := (RX12, TX12, 59)) rfl rfl o22 cl_X12_readOne wi_X12_readOne wl_X12_readOne km_X12_297 rfl rfl (nle rfl) (nle rfl) (nle rfl) dX12_reads_29 hC25 ?_
  have h26 := hC25.1 X
  have o27 := h26.ok o22
  show S0 X _ q23 32 [some (.ref (gh (xG X) + a0)), none] [] _
  refine s_iconst (pc := 32) 1 dX12_reads_32 kc_1 ?_
  refine s_istore_n (pc := 33) 1 dX12_reads_33 rfl (nlt rfl) rfl (L' := [some (.ref (gh (xG X) + a0)), some (.int 1)]) rfl ?_
  refine s_drop (L' := [some (.ref (gh (xG X) + a0)), some (.int 1)]) ?_ (And.intro rfl (And.intro rfl trivial))
  refine s_loop1 q23 (fun s28 : Mem × Int32 => s28.1) (fun s28 : Mem × Int32 => [some (.ref (gh (xG X) + a0)), some (.int s28.2)]) (fun x35 : Mem => x35) 73 (fun x35 : Mem => [some (.ref (gh (xG X) + a0)), none]) (fun x35 hx36 => ?_) (fun T30 R32 hT31 hR33 s28 hs29 => ?_) (q23, 1) Le.rf
  · show S0 X _ x35 73 [some (.ref (gh (xG X) + a0)), none] [] _
    have o69 := hx36.ok o27
    refine s_aload_n (pc := 73) 0 dX12_reads_73 rfl rfl ?_
    refine s_bind (fun q70 hq71 => ?_)
    have hC72 := t_X12_fine (l := xl X) (G := xG X) hq71
    refine s_callV (pc := 74) (As := []) (st := []) (nlt rfl) (q := (RX12, TX12, 59)) rfl rfl o69 cl_X12_fine wi_X12_fine wl_X12_fine km_X12_233 rfl rfl (nle rfl) (nle rfl) (nle rfl) dX12_reads_74 hC72 ?_
    show S0 X _ x35 77 [some (.ref (gh (xG X) + a0)), none] [.int q70] _
    refine s_join x35 (fun s74 : Mem => s74) 95 (fun s74 : Mem => [some (.ref (gh (xG X) + a0)), none]) (fun s74 : Mem => []) (fun s74 hs75 => ?_) (fun j73 hj76 => ?_)
    · show S0 X _ s74 95 [some (.ref (gh (xG X) + a0)), none] [] _
      have o77 := hs75.ok o69
      refine s_aload_n (pc := 95) 0 dX12_reads_95 rfl rfl ?_
      refine s_aload_n (pc := 96) 0 dX12_reads_96 rfl rfl ?_
      refine s_geti (pc := 97) F_12 25 rfl o77 dX12_reads_97 kf_X12_230 ?_
      refine s_puti (pc := 100) F_12 18 rfl o77 rfl rfl rfl dX12_reads_100 kf_X12_49 (fun M78 hM79 => ?_)
      have h80 := le_wI hM79
      have o81 := h80.ok o77
      refine s_aload_n (pc := 103) 0 dX12_reads_103 rfl rfl ?_
      refine s_bind (fun q82 hq83 => ?_)
      have hC84 := t_X12_fine (l := xl X) (G := xG X) hq83
      refine s_callV (pc := 104) (As := []) (st := []) (nlt rfl) (q := (RX12, TX12, 59)) rfl rfl o81 cl_X12_fine wi_X12_fine wl_X12_fine km_X12_233 rfl rfl (nle rfl) (nle rfl) (nle rfl) dX12_reads_104 hC84 ?_
      show S0 X _ M78 107 [some (.ref (gh (xG X) + a0)), none] [.int q82] _
      refine s_grd (fun g85 => ?_)
      exact s_zret rfl g85 dX12_reads_107
    · refine s_ifeq (pc := 77) 95 dX12_reads_77 rfl ?_ ?_
      · exact s_drop (hj76 x35 Le.rf) (And.intro rfl trivial)
      · refine s_aload_n (pc := 80) 0 dX12_reads_80 rfl rfl ?_
        refine s_geti (pc := 81) F_12 23 rfl o69 dX12_reads_81 kf_X12_237 ?_
        refine s_aload_n (pc := 84) 0 dX12_reads_84 rfl rfl ?_
        refine s_geti (pc := 85) F_12 22 rfl o69 dX12_reads_85 kf_X12_217 ?_
        refine s_icge (pc := 88) 95 dX12_reads_88 rfl ?_ ?_
        · exact s_drop (hj76 x35 Le.rf) (And.intro rfl trivial)
        · refine s_aload_n (pc := 91) 0 dX12_reads_91 rfl rfl ?_
          refine s_bind (fun q86 hq87 => ?_)
          have hC88 := t_X12_faults (l := xl X) (G := xG X) hq87
          refine s_callV (pc := 92) (As := []) (st := []) (nlt rfl) (q := (RX12, TX12, 59)) rfl rfl o69 cl_X12_faults wi_X12_faults wl_X12_faults km_X12_243 rfl rfl (nle rfl) (nle rfl) (nle rfl) dX12_reads_92 hC88 ?_
          have h89 := hC88.1 X
          have o90 := h89.ok o69
          show S0 X _ q86 95 [some (.ref (gh (xG X) + a0)), none] [] _
          exact s_drop (hj76 q86 h89) (And.intro rfl trivial)
  · show S0 X _ s28.1 34 [some (.ref (gh (xG X) + a0)), some (.int s28.2)] [] _
    have o34 := hs29.ok o27
    refine s_aload_n (pc := 34) 0 dX12_reads_34 rfl rfl ?_
    refine s_bipush (pc := 35) 59 dX12_reads_35 kb_59 ?_
    refine s_bind (fun q37 hq38 => ?_)
    have hC39 := t_X12_sign (l := xl X) (G := xG X) (M := s28.1) hq38
    refine s_callS (pc := 37) (As := [.int 59]) (st := [.ref (gh (xG X) + a0)]) cl_X12_sign wt_X12_sign km_X12_278 rfl rfl (nle rfl) (nle rfl) (nle rfl) dX12_reads_37 hC39 ?_
    show S0 X _ s28.1 40 [some (.ref (gh (xG X) + a0)), some (.int s28.2)] [.int q37, .ref (gh (xG X) + a0)] _
    refine s_bind (fun q40 hq41 => ?_)
    have hC42 := t_X12_takes0 (l := xl X) (G := xG X) hq41
    refine s_callV (pc := 40) (As := [.int q37]) (st := []) (nlt rfl) (q := (RX12, TX12, 59)) rfl rfl o34 cl_X12_takes0 wi_X12_takes0 wl_X12_takes0 km_X12_240 rfl rfl (nle rfl) (nle rfl) (nle rfl) dX12_reads_40 hC42 ?_
    have h43 := hC42.1 X
    have o44 := h43.ok o34
    show S0 X _ q40.1 43 [some (.ref (gh (xG X) + a0)), some (.int s28.2)] [.int q40.2] _
    refine s_ifeq (pc := 43) 73 dX12_reads_43 rfl ?_ ?_
    · exact s_drop (hR33 q40.1 (hs29.tr h43)) (And.intro rfl trivial)
    · refine s_iload_n (pc := 46) 1 dX12_reads_46 rfl rfl ?_
      refine s_bipush (pc := 47) 12 dX12_reads_47 kb_12 ?_
      refine s_join q40.1 (fun s46 : Mem => s46) 56 (fun s46 : Mem => [some (.ref (gh (xG X) + a0)), some (.int s28.2)]) (fun s46 : Mem => []) (fun s46 hs47 => ?_) (fun j45 hj48 => ?_)
      · show S0 X _ s46 56 [some (.ref (gh (xG X) + a0)), some (.int s28.2)] [] _
        have o49 := hs47.ok o44
        refine s_aload_n (pc := 56) 0 dX12_reads_56 rfl rfl ?_
        refine s_bind (fun q50 hq51 => ?_)
        have hC52 := t_X12_fine (l := xl X) (G := xG X) hq51
        refine s_callV (pc := 57) (As := []) (st := []) (nlt rfl) (q := (RX12, TX12, 59)) rfl rfl o49 cl_X12_fine wi_X12_fine wl_X12_fine km_X12_233 rfl rfl (nle rfl) (nle rfl) (nle rfl) dX12_reads_57 hC52 ?_
        show S0 X _ s46 60 [some (.ref (gh (xG X) + a0)), some (.int s28.2)] [.int q50] _
        refine s_join s46 (fun s54 : Mem => s54) 67 (fun s54 : Mem => [some (.ref (gh (xG X) + a0)), some (.int s28.2)]) (fun s54 : Mem => []) (fun s54 hs55 => ?_) (fun j53 hj56 => ?_)
        · show S0 X _ s54 67 [some (.ref (gh (xG X) + a0)), some (.int s28.2)] [] _
          have o57 := hs55.ok o49
          refine s_iinc (pc := 67) dX12_reads_67 rfl (v := s28.2 + 1) (congrArg (fun z : Int32 => s28.2 + z) kc_1) (nlt rfl) rfl (L' := [some (.ref (gh (xG X) + a0)), some (.int (s28.2 + 1))]) rfl ?_
          refine s_bv (fun x58 : Int32 => [some (.ref (gh (xG X) + a0)), some (.int x58)]) (fun x58 => ?_) rfl
          refine s_goto (pc := 70) 34 dX12_reads_70 rfl ?_
          exact s_drop (hT31 (s54, x58) (hs29.tr (h43.tr (hs47.tr hs55)))) (And.intro rfl (And.intro rfl trivial))
        · refine s_ifeq (pc := 60) 67 dX12_reads_60 rfl ?_ ?_
          · exact s_drop (hj56 s46 Le.rf) (And.intro rfl (And.intro rfl trivial))
          · refine s_aload_n (pc := 63) 0 dX12_reads_63 rfl rfl ?_
            refine s_bind (fun q59 hq60 => ?_)
            have hC61 := t_X12_readOne (l := xl X) (G := xG X) hq60
            refine s_callV (pc := 64) (As := []) (st := []) (nlt rfl) (q := (RX12, TX12, 59)) rfl rfl o49 cl_X12_readOne wi_X12_readOne wl_X12_readOne km_X12_297 rfl rfl (nle rfl) (nle rfl) (nle rfl) dX12_reads_64 hC61 ?_
            have h62 := hC61.1 X
            have o63 := h62.ok o49
            show S0 X _ q59 67 [some (.ref (gh (xG X) + a0)), some (.int s28.2)] [] _
            exact s_drop (hj56 q59 h62) (And.intro rfl (And.intro rfl trivial))
      · refine s_icne (pc := 49) 56 dX12_reads_49 rfl ?_ ?_
        · exact s_drop (hj48 q40.1 Le.rf) (And.intro rfl (And.intro rfl trivial))
        · refine s_aload_n (pc := 52) 0 dX12_reads_52 rfl rfl ?_
          refine s_bind (fun q64 hq65 => ?_)
          have hC66 := t_X12_faults (l := xl X) (G := xG X) hq65
          refine s_callV (pc := 53) (As := []) (st := []) (nlt rfl) (q := (RX12, TX12, 59)) rfl rfl o44 cl_X12_faults wi_X12_faults wl_X12_faults km_X12_243 rfl rfl (nle rfl) (nle rfl) (nle rfl) dX12_reads_53 hC66 ?_
          have h67 := hC66.1 X
          have o68 := h67.ok o44
          show S0 X _ q64 56 [some (.ref (gh (xG X) + a0)), some (.int s28.2)] [] _
          exact s_drop (hj48 q64 h67) (And.intro rfl (And.intro rfl trivial))
set_option maxRecDepth 100000 in
set_option maxHeartbeats 8000000 in
noncomputable def f_X12_stepsIn (M : Mem) (a0 : Nat) (p1 : Int32) (p2 : Int32) (p3 : Int32) : Option (Mem × Int32) :=
  Option.bind (loopO (σ := Mem × Int32) (ρ := Mem) (fun s1 => if 9331 ≤ s1.2 then (some (.inr s1.1)) else (grd (okO s1.1 12 a0) (Option.bind (mR s1.1 a0 35) (fun r10 => grd (okO s1.1 14 r10) (grd (vp_in s1.2 (mL s1.1 r10)) (bv (wI s1.1 r10 s1.2.toNatClampNeg 1000000) (fun M13 => bv (s1.2 + 1 : Int32) (fun x17 => some (.inl (M13, x17)))))))))) (M, 0)) (fun (x7 : Mem) => grd (okO x7 12 a0) (Option.bind (mR x7 a0 35) (fun r19 => Option.bind (f_X12_placeOf p1) (fun q20 => grd (okO x7 14 r19) (grd (vp_in q20 (mL x7 r19)) (bv (wI x7 r19 q20.toNatClampNeg 0) (fun M25 => Option.bind (mR M25 a0 36) (fun r29 => Option.bind (f_X12_placeOf p1) (fun q30 => grd (okO M25 14 r29) (grd (vp_in 0 (mL M25 r29)) (bv (wI M25 r29 (0 : Int32).toNatClampNeg q30) (fun M35 => Option.bind (f_X12_placeOf p2) (fun q39 => Option.bind (loopO (σ := Mem × Int32 × Int32) (ρ := Mem) (fun s42 => if s42.2.1 ≤ s42.2.2 then (some (.inr s42.1)) else (Option.bind (mR s42.1 a0 35) (fun r51 => grd (okO s42.1 14 r51) (grd (vp_in q39 (mL s42.1 r51)) (if (mI s42.1 r51 q39.toNatClampNeg) = 1000000 then (Option.bind (mR s42.1 a0 36) (fun r54 => grd (okO s42.1 14 r54) (grd (vp_in s42.2.2 (mL s42.1 r54)) (Option.bind (f_X12_dishAt (mI s42.1 r54 s42.2.2.toNatClampNeg)) (fun q57 => Option.bind (f_X12_lists s42.1 a0 q57 p3 0) (fun q60 => Option.bind (loopO (σ := Mem × Int32 × Int32) (ρ := Mem × Int32) (fun s65 => if (mI s65.1 a0 11) ≤ s65.2.2 then (some (.inr (s65.1, s65.2.1))) else (Option.bind (mR s65.1 a0 9) (fun r74 => grd (okO s65.1 14 r74) (grd (vp_in s65.2.2 (mL s65.1 r74)) (Option.bind (f_X12_placeOf (mI s65.1 r74 s65.2.2.toNatClampNeg)) (fun q77 => Option.bind (mR s65.1 a0 35) (fun r80 => grd (okO s65.1 14 r80) (grd (vp_in q77 (mL s65.1 r80)) (bv (fun (s84 : Mem × Int32) => bv (s65.2.2 + 1 : Int32) (fun x88 => some (.inl (s84.1, s84.2, x88)))) (fun j83 => if 1000000 ≤ (mI s65.1 r80 q77.toNatClampNeg) then (Option.bind (mR s65.1 a0 35) (fun r89 => Option.bind (mR s65.1 a0 35) (fun r90 => Option.bind (mR s65.1 a0 36) (fun r91 => grd (okO s65.1 14 r91) (grd (vp_in s42.2.2 (mL s65.1 r91)) (grd (okO s65.1 14 r90) (grd (vp_in (mI s65.1 r91 s42.2.2.toNatClampNeg) (mL s65.1 r90)) (grd (okO s65.1 14 r89) (grd (vp_in q77 (mL s65.1 r89)) (bv (wI s65.1 r89 q77.toNatClampNeg ((mI s65.1 r90 (mI s65.1 r91 s42.2.2.toNatClampNeg).toNatClampNeg) + 1)) (fun M98 => Option.bind (mR M98 a0 36) (fun r102 => grd (okO M98 14 r102) (grd (vp_in s65.2.1 (mL M98 r102)) (bv (wI M98 r102 s65.2.1.toNatClampNeg q77) (fun M105 => bv (s65.2.1 + 1 : Int32) (fun x109 => j83 (M105, x109))))))))))))))))) else (j83 (s65.1, s65.2.1)))))))))))) (q60, s42.2.1, 0)) (fun (x72 : Mem × Int32) => bv (s42.2.2 + 1 : Int32) (fun x111 => some (.inl (x72.1, x72.2, x111)))))))))) else (some (.inr s42.1))))))) (M35, 1, 0)) (fun (x49 : Mem) => Option.bind (mR x49 a0 35) (fun r113 => grd (okO x49 14 r113) (grd (vp_in q39 (mL x49 r113)) (if (mI x49 r113 q39.toNatClampNeg) = 1000000 then (some (x49, (-1))) else (Option.bind (mR x49 a0 35) (fun r116 => grd (okO x49 14 r116) (grd (vp_in q39 (mL x49 r116)) (some (x49, mI x49 r116 q39.toNatClampNeg))))))))))))))))))))))
abbrev Y_X12_stepsIn : Sta := (RX12, "stepsIn", cX12_stepsIn, 9, (some .int), 208)
set_option maxRecDepth 100000 in
set_option maxHeartbeats 8000000 in
theorem t_X12_stepsIn {l : Launch} {G : Gh} {M : Mem} {a0 : Nat} {p1 : Int32} {p2 : Int32} {p3 : Int32} {q : Mem × Int32} (h : f_X12_stepsIn M a0 p1 p2 p3 = some q) : Ctr l G yX12_stepsIn Y_X12_stepsIn M [.ref (gh G + a0), .int p1, .int p2, .int p3] q.1 (some (.int q.2)) := by
  refine Ctr.of (Y := Y_X12_stepsIn) (L := [some (.ref (gh G + a0)), some (.int p1), some (.int p2), some (.int p3), none, none, none, none, none]) (t := Option.bind (f_X12_stepsIn M a0 p1 p2 p3) (fun q => some (q.1, some (.int q.2)))) (by decide) rfl rfl (nle rfl) (Lof_in 5 _ rfl) (fun X hG hl => ?_) (by rw [h]; rfl)
  subst hG
  subst hl
  unfold f_X12_stepsIn
  refine s_iconst (pc := 0) 0 dX12_stepsIn_0 kc_0 ?_
  refine s_istore (pc := 1) dX12_stepsIn_1 (nlt rfl) rfl (L' := [some (.ref (gh (xG X) + a0)), some (.int p1), some (.int p2), some (.int p3), some (.int 0), none, none, none, none]) rfl ?_
  refine s_drop (L' := [some (.ref (gh (xG X) + a0)), some (.int p1), some (.int p2), some (.int p3), some (.int 0), none, none, none, none]) ?_ (And.intro rfl (And.intro rfl (And.intro rfl (And.intro rfl (And.intro rfl trivial)))))
  refine s_loop1 M (fun s1 : Mem × Int32 => s1.1) (fun s1 : Mem × Int32 => [some (.ref (gh (xG X) + a0)), some (.int p1), some (.int p2), some (.int p3), some (.int s1.2), none, none, none, none]) (fun x7 : Mem => x7) 26 (fun x7 : Mem => [some (.ref (gh (xG X) + a0)), some (.int p1), some (.int p2), some (.int p3), none, none, none, none, none]) (fun x7 hx8 => ?_) (fun T3 R5 hT4 hR6 s1 hs2 => ?_) (M, 0) Le.rf
  · show S0 X _ x7 26 [some (.ref (gh (xG X) + a0)), some (.int p1), some (.int p2), some (.int p3), none, none, none, none, none] [] _
    refine s_aload_n (pc := 26) 0 dX12_stepsIn_26 rfl rfl ?_
    refine s_grd (fun o18 => ?_)
    refine s_geto (pc := 27) F_12 35 rfl o18 dX12_stepsIn_27 kf_X12_77 ?_
    refine s_rvB (fun r19 => ?_)
    refine s_iload_n (pc := 30) 1 dX12_stepsIn_30 rfl rfl ?_
    refine s_bind (fun q20 hq21 => ?_)
    have hC22 := t_X12_placeOf (l := xl X) (G := xG X) (M := x7) hq21
    refine s_callS (pc := 31) (As := [.int p1]) (st := [.ref (gh (xG X) + r19)]) cl_X12_placeOf wt_X12_placeOf km_X12_362 rfl rfl (nle rfl) (nle rfl) (nle rfl) dX12_stepsIn_31 hC22 ?_
    show S0 X _ x7 34 [some (.ref (gh (xG X) + a0)), some (.int p1), some (.int p2), some (.int p3), none, none, none, none, none] [.int q20, .ref (gh (xG X) + r19)] _
    refine s_iconst (pc := 34) 0 dX12_stepsIn_34 kc_0 ?_
    refine s_grd (fun o23 => ?_)
    refine s_grd (fun i24 => ?_)
    refine s_iast (pc := 35) o23 i24 dX12_stepsIn_35 (fun M25 hM26 => ?_)
    have h27 := le_wI hM26
    have o28 := h27.ok o18
    refine s_aload_n (pc := 36) 0 dX12_stepsIn_36 rfl rfl ?_
    refine s_geto (pc := 37) F_12 36 rfl o28 dX12_stepsIn_37 kf_X12_80 ?_
    refine s_rvB (fun r29 => ?_)
    refine s_iconst (pc := 40) 0 dX12_stepsIn_40 kc_0 ?_
    refine s_iload_n (pc := 41) 1 dX12_stepsIn_41 rfl rfl ?_
    refine s_bind (fun q30 hq31 => ?_)
    have hC32 := t_X12_placeOf (l := xl X) (G := xG X) (M := M25) hq31
    refine s_callS (pc := 42) (As := [.int p1]) (st := [.int 0, .ref (gh (xG X) + r29)]) cl_X12_placeOf wt_X12_placeOf km_X12_362 rfl rfl (nle rfl) (nle rfl) (nle rfl) dX12_stepsIn_42 hC32 ?_
    show S0 X _ M25 45 [some (.ref (gh (xG X) + a0)), some (.int p1), some (.int p2), some (.int p3), none, none, none, none, none] [.int q30, .int 0, .ref (gh (xG X) + r29)] _
    refine s_grd (fun o33 => ?_)
    refine s_grd (fun i34 => ?_)
    refine s_iast (pc := 45) o33 i34 dX12_stepsIn_45 (fun M35 hM36 => ?_)
    have h37 := le_wI hM36
    have o38 := h37.ok o28
    refine s_iconst (pc := 46) 1 dX12_stepsIn_46 kc_1 ?_
    refine s_istore (pc := 47) dX12_stepsIn_47 (nlt rfl) rfl (L' := [some (.ref (gh (xG X) + a0)), some (.int p1), some (.int p2), some (.int p3), some (.int 1), none, none, none, none]) rfl ?_
    refine s_iload_n (pc := 49) 2 dX12_stepsIn_49 rfl rfl ?_
    refine s_bind (fun q39 hq40 => ?_)
    have hC41 := t_X12_placeOf (l := xl X) (G := xG X) (M := M35) hq40
    refine s_callS (pc := 50) (As := [.int p2]) (st := []) cl_X12_placeOf wt_X12_placeOf km_X12_362 rfl rfl (nle rfl) (nle rfl) (nle rfl) dX12_stepsIn_50 hC41 ?_
    show S0 X _ M35 53 [some (.ref (gh (xG X) + a0)), some (.int p1), some (.int p2), some (.int p3), some (.int 1), none, none, none, none] [.int q39] _
    refine s_istore (pc := 53) dX12_stepsIn_53 (nlt rfl) rfl (L' := [some (.ref (gh (xG X) + a0)), some (.int p1), some (.int p2), some (.int p3), some (.int 1), some (.int q39), none, none, none]) rfl ?_
    refine s_iconst (pc := 55) 0 dX12_stepsIn_55 kc_0 ?_
    refine s_istore (pc := 56) dX12_stepsIn_56 (nlt rfl) rfl (L' := [some (.ref (gh (xG X) + a0)), some (.int p1), some (.int p2), some (.int p3), some (.int 1), some (.int q39), some (.int 0), none, none]) rfl ?_
    refine s_drop (L' := [some (.ref (gh (xG X) + a0)), none, none, some (.int p3), some (.int 1), some (.int q39), some (.int 0), none, none]) ?_ (And.intro rfl (And.intro rfl (And.intro rfl (And.intro rfl (And.intro rfl trivial)))))
    refine s_loop1 M35 (fun s42 : Mem × Int32 × Int32 => s42.1) (fun s42 : Mem × Int32 × Int32 => [some (.ref (gh (xG X) + a0)), none, none, some (.int p3), some (.int s42.2.1), some (.int q39), some (.int s42.2.2), none, none]) (fun x49 : Mem => x49) 177 (fun x49 : Mem => [some (.ref (gh (xG X) + a0)), none, none, none, none, some (.int q39), none, none, none]) (fun x49 hx50 => ?_) (fun T44 R46 hT45 hR47 s42 hs43 => ?_) (M35, 1, 0) Le.rf
    · show S0 X _ x49 177 [some (.ref (gh (xG X) + a0)), none, none, none, none, some (.int q39), none, none, none] [] _
      have o112 := hx50.ok o38
      refine s_aload_n (pc := 177) 0 dX12_stepsIn_177 rfl rfl ?_
      refine s_geto (pc := 178) F_12 35 rfl o112 dX12_stepsIn_178 kf_X12_77 ?_
      refine s_rvB (fun r113 => ?_)
      refine s_iload (pc := 181) dX12_stepsIn_181 rfl ?_
      refine s_grd (fun o114 => ?_)
      refine s_grd (fun i115 => ?_)
      refine s_iald (pc := 183) o114 i115 dX12_stepsIn_183 ?_
      refine s_ldc (pc := 184) dX12_stepsIn_184 ki_X12_229 ?_
      refine s_icne (pc := 186) 193 dX12_stepsIn_186 rfl ?_ ?_
      · refine s_aload_n (pc := 193) 0 dX12_stepsIn_193 rfl rfl ?_
        refine s_geto (pc := 194) F_12 35 rfl o112 dX12_stepsIn_194 kf_X12_77 ?_
        refine s_rvB (fun r116 => ?_)
        refine s_iload (pc := 197) dX12_stepsIn_197 rfl ?_
        refine s_grd (fun o117 => ?_)
        refine s_grd (fun i118 => ?_)
        refine s_iald (pc := 199) o117 i118 dX12_stepsIn_199 ?_
        exact s_iret rfl dX12_stepsIn_200
      · refine s_iconst (pc := 189) (-1) dX12_stepsIn_189 kc_m1 ?_
        refine s_goto (pc := 190) 200 dX12_stepsIn_190 rfl ?_
        exact s_iret rfl dX12_stepsIn_200
    · show S0 X _ s42.1 58 [some (.ref (gh (xG X) + a0)), none, none, some (.int p3), some (.int s42.2.1), some (.int q39), some (.int s42.2.2), none, none] [] _
      have o48 := hs43.ok o38
      refine s_iload (pc := 58) dX12_stepsIn_58 rfl ?_
      refine s_iload (pc := 60) dX12_stepsIn_60 rfl ?_
      refine s_icge (pc := 62) 177 dX12_stepsIn_62 rfl ?_ ?_
      · exact s_drop (hR47 s42.1 hs43) (And.intro rfl (And.intro rfl trivial))
      · refine s_aload_n (pc := 65) 0 dX12_stepsIn_65 rfl rfl ?_
        refine s_geto (pc := 66) F_12 35 rfl o48 dX12_stepsIn_66 kf_X12_77 ?_
        refine s_rvB (fun r51 => ?_)
        refine s_iload (pc := 69) dX12_stepsIn_69 rfl ?_
        refine s_grd (fun o52 => ?_)
        refine s_grd (fun i53 => ?_)
        refine s_iald (pc := 71) o52 i53 dX12_stepsIn_71 ?_
        refine s_ldc (pc := 72) dX12_stepsIn_72 ki_X12_229 ?_
        refine s_icne (pc := 74) 177 dX12_stepsIn_74 rfl ?_ ?_
        · exact s_drop (hR47 s42.1 hs43) (And.intro rfl (And.intro rfl trivial))
        · refine s_aload_n (pc := 77) 0 dX12_stepsIn_77 rfl rfl ?_
          refine s_aload_n (pc := 78) 0 dX12_stepsIn_78 rfl rfl ?_
          refine s_geto (pc := 79) F_12 36 rfl o48 dX12_stepsIn_79 kf_X12_80 ?_
          refine s_rvB (fun r54 => ?_)
          refine s_iload (pc := 82) dX12_stepsIn_82 rfl ?_
          refine s_grd (fun o55 => ?_)
          refine s_grd (fun i56 => ?_)
          refine s_iald (pc := 84) o55 i56 dX12_stepsIn_84 ?_
          refine s_bind (fun q57 hq58 => ?_)
          have hC59 := t_X12_dishAt (l := xl X) (G := xG X) (M := s42.1) hq58
          refine s_callS (pc := 85) (As := [.int (mI s42.1 r54 s42.2.2.toNatClampNeg)]) (st := [.ref (gh (xG X) + a0)]) cl_X12_dishAt wt_X12_dishAt km_X12_359 rfl rfl (nle rfl) (nle rfl) (nle rfl) dX12_stepsIn_85 hC59 ?_
          show S0 X _ s42.1 88 [some (.ref (gh (xG X) + a0)), none, none, some (.int p3), some (.int s42.2.1), some (.int q39), some (.int s42.2.2), none, none] [.int q57, .ref (gh (xG X) + a0)] _
          refine s_iload_n (pc := 88) 3 dX12_stepsIn_88 rfl rfl ?_
          refine s_iconst (pc := 89) 0 dX12_stepsIn_89 kc_0 ?_
          refine s_bind (fun q60 hq61 => ?_)
          have hC62 := t_X12_lists (l := xl X) (G := xG X) hq61
          refine s_callV (pc := 90) (As := [.int q57, .int p3, .int 0]) (st := []) (nlt rfl) (q := (RX12, TX12, 59)) rfl rfl o48 cl_X12_lists wi_X12_lists wl_X12_lists km_X12_187 rfl rfl (nle rfl) (nle rfl) (nle rfl) dX12_stepsIn_90 hC62 ?_
          have h63 := hC62.1 X
          have o64 := h63.ok o48
          show S0 X _ q60 93 [some (.ref (gh (xG X) + a0)), none, none, some (.int p3), some (.int s42.2.1), some (.int q39), some (.int s42.2.2), none, none] [] _
          refine s_iconst (pc := 93) 0 dX12_stepsIn_93 kc_0 ?_
          refine s_istore (pc := 94) dX12_stepsIn_94 (nlt rfl) rfl (L' := [some (.ref (gh (xG X) + a0)), none, none, some (.int p3), some (.int s42.2.1), some (.int q39), some (.int s42.2.2), some (.int 0), none]) rfl ?_
          refine s_drop (L' := [some (.ref (gh (xG X) + a0)), none, none, some (.int p3), some (.int s42.2.1), some (.int q39), some (.int s42.2.2), some (.int 0), none]) ?_ (And.intro rfl (And.intro rfl (And.intro rfl (And.intro rfl (And.intro rfl (And.intro rfl trivial))))))
          refine s_loop1 q60 (fun s65 : Mem × Int32 × Int32 => s65.1) (fun s65 : Mem × Int32 × Int32 => [some (.ref (gh (xG X) + a0)), none, none, some (.int p3), some (.int s65.2.1), some (.int q39), some (.int s42.2.2), some (.int s65.2.2), none]) (fun x72 : Mem × Int32 => x72.1) 171 (fun x72 : Mem × Int32 => [some (.ref (gh (xG X) + a0)), none, none, some (.int p3), some (.int x72.2), some (.int q39), some (.int s42.2.2), none, none]) (fun x72 hx73 => ?_) (fun T67 R69 hT68 hR70 s65 hs66 => ?_) (q60, s42.2.1, 0) Le.rf
          · show S0 X _ x72.1 171 [some (.ref (gh (xG X) + a0)), none, none, some (.int p3), some (.int x72.2), some (.int q39), some (.int s42.2.2), none, none] [] _
            have o110 := hx73.ok o64
            refine s_iinc (pc := 171) dX12_stepsIn_171 rfl (v := s42.2.2 + 1) (congrArg (fun z : Int32 => s42.2.2 + z) kc_1) (nlt rfl) rfl (L' := [some (.ref (gh (xG X) + a0)), none, none, some (.int p3), some (.int x72.2), some (.int q39), some (.int (s42.2.2 + 1)), none, none]) rfl ?_
            refine s_bv (fun x111 : Int32 => [some (.ref (gh (xG X) + a0)), none, none, some (.int p3), some (.int x72.2), some (.int q39), some (.int x111), none, none]) (fun x111 => ?_) rfl
            refine s_goto (pc := 174) 58 dX12_stepsIn_174 rfl ?_
            exact s_drop (hT45 (x72.1, x72.2, x111) (hs43.tr (h63.tr hx73))) (And.intro rfl (And.intro rfl (And.intro rfl (And.intro rfl (And.intro rfl trivial)))))
          · show S0 X _ s65.1 96 [some (.ref (gh (xG X) + a0)), none, none, some (.int p3), some (.int s65.2.1), some (.int q39), some (.int s42.2.2), some (.int s65.2.2), none] [] _
            have o71 := hs66.ok o64
            refine s_iload (pc := 96) dX12_stepsIn_96 rfl ?_
            refine s_aload_n (pc := 98) 0 dX12_stepsIn_98 rfl rfl ?_
            refine s_geti (pc := 99) F_12 11 rfl o71 dX12_stepsIn_99 kf_X12_174 ?_
            refine s_icge (pc := 102) 171 dX12_stepsIn_102 rfl ?_ ?_
            · exact s_drop (hR70 (s65.1, s65.2.1) hs66) (And.intro rfl (And.intro rfl (And.intro rfl (And.intro rfl (And.intro rfl trivial)))))
            · refine s_aload_n (pc := 105) 0 dX12_stepsIn_105 rfl rfl ?_
              refine s_geto (pc := 106) F_12 9 rfl o71 dX12_stepsIn_106 kf_X12_33 ?_
              refine s_rvB (fun r74 => ?_)
              refine s_iload (pc := 109) dX12_stepsIn_109 rfl ?_
              refine s_grd (fun o75 => ?_)
              refine s_grd (fun i76 => ?_)
              refine s_iald (pc := 111) o75 i76 dX12_stepsIn_111 ?_
              refine s_bind (fun q77 hq78 => ?_)
              have hC79 := t_X12_placeOf (l := xl X) (G := xG X) (M := s65.1) hq78
              refine s_callS (pc := 112) (As := [.int (mI s65.1 r74 s65.2.2.toNatClampNeg)]) (st := []) cl_X12_placeOf wt_X12_placeOf km_X12_362 rfl rfl (nle rfl) (nle rfl) (nle rfl) dX12_stepsIn_112 hC79 ?_
              show S0 X _ s65.1 115 [some (.ref (gh (xG X) + a0)), none, none, some (.int p3), some (.int s65.2.1), some (.int q39), some (.int s42.2.2), some (.int s65.2.2), none] [.int q77] _
              refine s_istore (pc := 115) dX12_stepsIn_115 (nlt rfl) rfl (L' := [some (.ref (gh (xG X) + a0)), none, none, some (.int p3), some (.int s65.2.1), some (.int q39), some (.int s42.2.2), some (.int s65.2.2), some (.int q77)]) rfl ?_
              refine s_aload_n (pc := 117) 0 dX12_stepsIn_117 rfl rfl ?_
              refine s_geto (pc := 118) F_12 35 rfl o71 dX12_stepsIn_118 kf_X12_77 ?_
              refine s_rvB (fun r80 => ?_)
              refine s_iload (pc := 121) dX12_stepsIn_121 rfl ?_
              refine s_grd (fun o81 => ?_)
              refine s_grd (fun i82 => ?_)
              refine s_iald (pc := 123) o81 i82 dX12_stepsIn_123 ?_
              refine s_ldc (pc := 124) dX12_stepsIn_124 ki_X12_229 ?_
              refine s_join s65.1 (fun s84 : Mem × Int32 => s84.1) 165 (fun s84 : Mem × Int32 => [some (.ref (gh (xG X) + a0)), none, none, some (.int p3), some (.int s84.2), some (.int q39), some (.int s42.2.2), some (.int s65.2.2), none]) (fun s84 : Mem × Int32 => []) (fun s84 hs85 => ?_) (fun j83 hj86 => ?_)
              · show S0 X _ s84.1 165 [some (.ref (gh (xG X) + a0)), none, none, some (.int p3), some (.int s84.2), some (.int q39), some (.int s42.2.2), some (.int s65.2.2), none] [] _
                have o87 := hs85.ok o71
                refine s_iinc (pc := 165) dX12_stepsIn_165 rfl (v := s65.2.2 + 1) (congrArg (fun z : Int32 => s65.2.2 + z) kc_1) (nlt rfl) rfl (L' := [some (.ref (gh (xG X) + a0)), none, none, some (.int p3), some (.int s84.2), some (.int q39), some (.int s42.2.2), some (.int (s65.2.2 + 1)), none]) rfl ?_
                refine s_bv (fun x88 : Int32 => [some (.ref (gh (xG X) + a0)), none, none, some (.int p3), some (.int s84.2), some (.int q39), some (.int s42.2.2), some (.int x88), none]) (fun x88 => ?_) rfl
                refine s_goto (pc := 168) 96 dX12_stepsIn_168 rfl ?_
                exact s_drop (hT68 (s84.1, s84.2, x88) (hs66.tr hs85)) (And.intro rfl (And.intro rfl (And.intro rfl (And.intro rfl (And.intro rfl (And.intro rfl trivial))))))
              · refine s_icge (pc := 126) 132 dX12_stepsIn_126 rfl ?_ ?_
                · refine s_aload_n (pc := 132) 0 dX12_stepsIn_132 rfl rfl ?_
                  refine s_geto (pc := 133) F_12 35 rfl o71 dX12_stepsIn_133 kf_X12_77 ?_
                  refine s_rvB (fun r89 => ?_)
                  refine s_iload (pc := 136) dX12_stepsIn_136 rfl ?_
                  refine s_aload_n (pc := 138) 0 dX12_stepsIn_138 rfl rfl ?_
                  refine s_geto (pc := 139) F_12 35 rfl o71 dX12_stepsIn_139 kf_X12_77 ?_
                  refine s_rvB (fun r90 => ?_)
                  refine s_aload_n (pc := 142) 0 dX12_stepsIn_142 rfl rfl ?_
                  refine s_geto (pc := 143) F_12 36 rfl o71 dX12_stepsIn_143 kf_X12_80 ?_
                  refine s_rvB (fun r91 => ?_)
                  refine s_iload (pc := 146) dX12_stepsIn_146 rfl ?_
                  refine s_grd (fun o92 => ?_)
                  refine s_grd (fun i93 => ?_)
                  refine s_iald (pc := 148) o92 i93 dX12_stepsIn_148 ?_
                  refine s_grd (fun o94 => ?_)
                  refine s_grd (fun i95 => ?_)
                  refine s_iald (pc := 149) o94 i95 dX12_stepsIn_149 ?_
                  refine s_iconst (pc := 150) 1 dX12_stepsIn_150 kc_1 ?_
                  refine s_iadd (pc := 151) dX12_stepsIn_151 ?_
                  refine s_grd (fun o96 => ?_)
                  refine s_grd (fun i97 => ?_)
                  refine s_iast (pc := 152) o96 i97 dX12_stepsIn_152 (fun M98 hM99 => ?_)
                  have h100 := le_wI hM99
                  have o101 := h100.ok o71
                  refine s_aload_n (pc := 153) 0 dX12_stepsIn_153 rfl rfl ?_
                  refine s_geto (pc := 154) F_12 36 rfl o101 dX12_stepsIn_154 kf_X12_80 ?_
                  refine s_rvB (fun r102 => ?_)
                  refine s_iload (pc := 157) dX12_stepsIn_157 rfl ?_
                  refine s_iload (pc := 159) dX12_stepsIn_159 rfl ?_
                  refine s_grd (fun o103 => ?_)
                  refine s_grd (fun i104 => ?_)
                  refine s_iast (pc := 161) o103 i104 dX12_stepsIn_161 (fun M105 hM106 => ?_)
                  have h107 := le_wI hM106
                  have o108 := h107.ok o101
                  refine s_iinc (pc := 162) dX12_stepsIn_162 rfl (v := s65.2.1 + 1) (congrArg (fun z : Int32 => s65.2.1 + z) kc_1) (nlt rfl) rfl (L' := [some (.ref (gh (xG X) + a0)), none, none, some (.int p3), some (.int (s65.2.1 + 1)), some (.int q39), some (.int s42.2.2), some (.int s65.2.2), some (.int q77)]) rfl ?_
                  refine s_bv (fun x109 : Int32 => [some (.ref (gh (xG X) + a0)), none, none, some (.int p3), some (.int x109), some (.int q39), some (.int s42.2.2), some (.int s65.2.2), some (.int q77)]) (fun x109 => ?_) rfl
                  exact s_drop (hj86 (M105, x109) (h100.tr h107)) (And.intro rfl (And.intro rfl (And.intro rfl (And.intro rfl (And.intro rfl (And.intro rfl trivial))))))
                · refine s_goto (pc := 129) 165 dX12_stepsIn_129 rfl ?_
                  exact s_drop (hj86 (s65.1, s65.2.1) Le.rf) (And.intro rfl (And.intro rfl (And.intro rfl (And.intro rfl (And.intro rfl (And.intro rfl trivial))))))
  · show S0 X _ s1.1 3 [some (.ref (gh (xG X) + a0)), some (.int p1), some (.int p2), some (.int p3), some (.int s1.2), none, none, none, none] [] _
    refine s_iload (pc := 3) dX12_stepsIn_3 rfl ?_
    refine s_sipush (pc := 5) 9331 dX12_stepsIn_5 ks_9331 ?_
    refine s_icge (pc := 8) 26 dX12_stepsIn_8 rfl ?_ ?_
    · exact s_drop (hR6 s1.1 hs2) (And.intro rfl (And.intro rfl (And.intro rfl (And.intro rfl trivial))))
    · refine s_aload_n (pc := 11) 0 dX12_stepsIn_11 rfl rfl ?_
      refine s_grd (fun o9 => ?_)
      refine s_geto (pc := 12) F_12 35 rfl o9 dX12_stepsIn_12 kf_X12_77 ?_
      refine s_rvB (fun r10 => ?_)
      refine s_iload (pc := 15) dX12_stepsIn_15 rfl ?_
      refine s_ldc (pc := 17) dX12_stepsIn_17 ki_X12_229 ?_
      refine s_grd (fun o11 => ?_)
      refine s_grd (fun i12 => ?_)
      refine s_iast (pc := 19) o11 i12 dX12_stepsIn_19 (fun M13 hM14 => ?_)
      have h15 := le_wI hM14
      have o16 := h15.ok o9
      refine s_iinc (pc := 20) dX12_stepsIn_20 rfl (v := s1.2 + 1) (congrArg (fun z : Int32 => s1.2 + z) kc_1) (nlt rfl) rfl (L' := [some (.ref (gh (xG X) + a0)), some (.int p1), some (.int p2), some (.int p3), some (.int (s1.2 + 1)), none, none, none, none]) rfl ?_
      refine s_bv (fun x17 : Int32 => [some (.ref (gh (xG X) + a0)), some (.int p1), some (.int p2), some (.int p3), some (.int x17), none, none, none, none]) (fun x17 => ?_) rfl
      refine s_goto (pc := 23) 3 dX12_stepsIn_23 rfl ?_
      exact s_drop (hT4 (M13, x17) (hs2.tr h15)) (And.intro rfl (And.intro rfl (And.intro rfl (And.intro rfl (And.intro rfl trivial)))))
