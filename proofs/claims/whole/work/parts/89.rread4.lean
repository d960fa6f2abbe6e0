/-! the reference reads TESTS -/
section
variable {T : Nat → Nat} {len : Nat} {pl : Nat → Nat} {ord : Bool}
def RSTJ (bd : Mem → Option (Mem ⊕ Mem)) (g : Mem → Nat → Int32 → Option Mem) (dep tok : Nat) (T : Nat → Nat) (len : Nat) (pl : Nat → Nat) (ord : Bool) : Prop := (∀ s, BAD s → bd s = some (.inr s)) ∧ ∀ s k p, RPS s T len pl ord k p → (T k ≠ tok → bd s = some (.inr s)) ∧ (T k = tok → bd s = Option.bind (g (ADV s k) 47 (nI dep)) (fun q => some (.inl q)))
theorem RP_loopJ (hT : ∀ j, len ≤ j → T j = 256) {bd : Mem → Option (Mem ⊕ Mem)} {g : Mem → Nat → Int32 → Option Mem} {dep tok jop : Nat} (hne : tok ≠ 256) {sub : PF3} (hg : GD len sub) (hs : RP g dep T len pl ord sub) (hb : RSTJ bd g dep tok T len pl ord) {M : Mem} {u : Nat} : ∀ n k p acc M1, 400 ≤ n + k → p ≤ 50 → Fr Srp M M1 → RPS M1 T len pl ord k p → TT (loopO bd M1) (RPQ M T len pl ord (lpJ T sub tok jop u n k p acc)) := by
  intro n
  induction n with
  | zero =>
    intro k p acc M1 hn hp hF h
    have hk : T k ≠ tok := by
      have h2 := h.2.1
      rw [hT k (by omega)]
      exact hne.symm
    rw [loopO_eq, ((hb.2 M1 k p h).1 hk)]
    exact ⟨_, rfl, hF, h⟩
  | succ n ih =>
    intro k p acc M1 hn hp hF h
    rw [lpJ]
    by_cases ho : T k = tok
    · have hkl : k < len := lt_of_T hT ho hne
      obtain ⟨M2, hM2, a1, a2⟩ := hs.1 (ADV M1 k) (k + 1) p (u + acc.length + 1) (h.adv hkl) hp
      rw [loopO_eq, ((hb.2 M1 k p h).2 ho), hM2, Option.bind_some, if_pos ho]
      have gg := hg (k + 1) p (u + acc.length + 1) hp hkl
      cases hsub : sub (k + 1) p (u + acc.length + 1) with
      | inl j =>
        rw [hsub] at a2
        have hbad : BAD M2 := bad_of (h.adv hkl).1 a1 a2
        simp only
        rw [loopO_eq, hb.1 M2 hbad]
        exact ⟨_, rfl, (hF.tr fr_adv).tr a1, a2⟩
      | inr x =>
        rw [hsub] at a2 gg
        obtain ⟨g1, g2, g3, g4, g5, g6⟩ := gg
        exact ih x.1 x.2.1 _ M2 (by omega) g4 ((hF.tr fr_adv).tr a1) a2
    · rw [loopO_eq, ((hb.2 M1 k p h).1 ho), if_neg ho]
      exact ⟨_, rfl, hF, h⟩
theorem RP_seqJ (hT : ∀ j, len ≤ j → T j = 256) {bd : Mem → Option (Mem ⊕ Mem)} {g F : Mem → Nat → Int32 → Option Mem} {dep tok jop : Nat} (hne : tok ≠ 256) {sub : PF3} (hg : GD len sub) (hs : RP g dep T len pl ord sub) (hb : RSTJ bd g dep tok T len pl ord) (hF2 : ∀ M, LayM M → F M 47 (nI dep) = Option.bind (g M 47 (nI dep)) (fun q2 => Option.bind (loopO bd q2) (fun x => some x))) : RP F dep T len pl ord (pSeqJ T sub tok jop) := by
  refine ⟨fun M k p u h hp => ?_, fun M h => ?_⟩
  · rw [hF2 M h.1]
    obtain ⟨M1, hM1, a1, a2⟩ := hs.1 M k p u h hp
    rw [hM1, Option.bind_some, TT_bind]
    have gg := hg k p u hp h.2.2.2.2.2.2.2.2.1
    unfold pSeqJ
    simp only [TT_some]
    cases hsub : sub k p u with
    | inl j =>
      rw [hsub] at a2
      have hbad : BAD M1 := bad_of h.1 a1 a2
      rw [loopO_eq, hb.1 M1 hbad]
      exact ⟨_, rfl, a1, a2⟩
    | inr x =>
      rw [hsub] at a2 gg
      obtain ⟨g1, g2, g3, g4, g5, g6⟩ := gg
      exact RP_loopJ hT hne hg hs hb 400 x.1 x.2.1 x.2.2 M1 (by omega) g4 a1 a2
  · rw [hF2 M h.1, hs.2 M h, Option.bind_some, loopO_eq, hb.1 M h]
    rfl
theorem RSJ_or {g : Mem → Nat → Int32 → Option Mem} {dep : Nat} : RSTJ (reB g (nI dep)) g dep 263 T len pl ord := by
  refine ⟨fun s h => ?_, fun s k p h => ?_⟩
  · unfold reB
    simp only [Option.bind_some, r_takes_n h, if_true]
  · have t4 : f_X12_takes0 s 47 4 = some (if rc (T k) = 4 then (ADV s k, 1) else (s, 0)) := r_takes_y h (c := 4) (by decide)
    have c4 : rc (T k) = 4 ↔ T k = 263 := rc_tok (by omega) (by decide)
    unfold reB
    simp only [t4, Option.bind_some]
    refine ⟨fun ho => ?_, fun ho => ?_⟩
    · rw [if_neg (fun w => ho (c4.mp w))]
      simp only [if_true]
    · rw [if_pos (c4.mpr ho)]
      simp only [show ¬ (1 : Int32) = 0 by decide, if_false]
theorem RSJ_and {g : Mem → Nat → Int32 → Option Mem} {dep : Nat} : RSTJ (roB g (nI dep)) g dep 264 T len pl ord := by
  refine ⟨fun s h => ?_, fun s k p h => ?_⟩
  · unfold roB
    simp only [Option.bind_some, r_takes_n h, if_true]
  · have t4 : f_X12_takes0 s 47 5 = some (if rc (T k) = 5 then (ADV s k, 1) else (s, 0)) := r_takes_y h (c := 5) (by decide)
    have c4 : rc (T k) = 5 ↔ T k = 264 := rc_tok (by omega) (by decide)
    unfold roB
    simp only [t4, Option.bind_some]
    refine ⟨fun ho => ?_, fun ho => ?_⟩
    · rw [if_neg (fun w => ho (c4.mp w))]
      simp only [if_true]
    · rw [if_pos (c4.mpr ho)]
      simp only [show ¬ (1 : Int32) = 0 by decide, if_false]
noncomputable def rnL : Mem × Int32 → Option ((Mem × Int32) ⊕ Mem) := (fun s1 => if s1.2 = 0 then (some (.inr s1.1)) else (grd (okO s1.1 12 47) (Option.bind (f_X12_takes0 s1.1 47 6) (fun q10 => some (.inl (q10.1, q10.2))))))
theorem rn_nots (hT : ∀ j, len ≤ j → T j = 256) {M : Mem} {p : Nat} : ∀ n k M1, 400 ≤ n + k → Fr Srp M M1 → RPS M1 T len pl ord k p → TT (loopO rnL (M1, 1)) (fun q => Fr Srp M q ∧ RPS q T len pl ord (nots T n k) p) := by
  intro n
  induction n with
  | zero =>
    intro k M1 hn hF h
    have t6 : f_X12_takes0 M1 47 6 = some (if rc (T k) = 6 then (ADV M1 k, 1) else (M1, 0)) := r_takes_y h (c := 6) (by decide)
    have h2 := h.2.1
    have hM := h.1
    unfold LayM at hM
    have e : rnL (M1, 1) = some (.inl (M1, 0)) := by
      unfold rnL
      rw [if_neg (show ¬ (1 : Int32) = 0 by decide), grd_y hM.1, t6, hT k (by omega), if_neg (by decide)]
      rfl
    have e2 : rnL (M1, 0) = some (.inr M1) := by
      unfold rnL
      rw [if_pos rfl]
    rw [loopO_eq, e]
    simp only
    rw [loopO_eq, e2]
    exact ⟨_, rfl, hF, h⟩
  | succ n ih =>
    intro k M1 hn hF h
    have t6 : f_X12_takes0 M1 47 6 = some (if rc (T k) = 6 then (ADV M1 k, 1) else (M1, 0)) := r_takes_y h (c := 6) (by decide)
    have c6 : rc (T k) = 6 ↔ T k = 265 := rc_tok (by omega) (by decide)
    have hM := h.1
    unfold LayM at hM
    rw [nots]
    by_cases q : T k = 265
    · have hkl := lt_of_T hT q (by decide)
      have e : rnL (M1, 1) = some (.inl (ADV M1 k, 1)) := by
        unfold rnL
        rw [if_neg (show ¬ (1 : Int32) = 0 by decide), grd_y hM.1, t6, if_pos (c6.mpr q)]
        rfl
      rw [loopO_eq, e, if_pos q]
      exact ih (k + 1) (ADV M1 k) (by omega) (hF.tr fr_adv) (h.adv hkl)
    · have e : rnL (M1, 1) = some (.inl (M1, 0)) := by
        unfold rnL
        rw [if_neg (show ¬ (1 : Int32) = 0 by decide), grd_y hM.1, t6, if_neg (fun w => q (c6.mp w))]
        rfl
      have e2 : rnL (M1, 0) = some (.inr M1) := by
        unfold rnL
        rw [if_pos rfl]
      rw [loopO_eq, e, if_neg q]
      simp only
      rw [loopO_eq, e2]
      exact ⟨_, rfl, hF, h⟩
theorem RP_cmp (hT : ∀ j, len ≤ j → T j = 256) {r : Nat} (hr : r ≤ 8) {M M0 : Mem} {k p u : Nat} (h : RPS M T len pl ord k p) (hp : p ≤ 50) (hF0 : Fr Srp M0 M) : TT (Option.bind (f_X12_readSum 100 M 47 (nI (8 - r))) (fun q26 => Option.bind (f_X12_takes0 q26 47 (100 + 60)) (fun q34 => if q34.2 = 0 then (Option.bind (f_X12_takes0 q34.1 47 (100 + 62)) (fun q52 => if q52.2 = 0 then (Option.bind (f_X12_must q52.1 47 (100 + 61)) (fun q60 => Option.bind (f_X12_readSum 100 q60 47 (nI (8 - r))) (fun q44 => some q44))) else (Option.bind (f_X12_readSum 100 q52.1 47 (nI (8 - r))) (fun q44 => some q44)))) else (Option.bind (f_X12_readSum 100 q34.1 47 (nI (8 - r))) (fun q44 => some q44))))) (RPQ M0 T len pl ord (pCmp ord T r k p u)) := by
  have hS := RP_S (pl := pl) (ord := ord) hT hr
  obtain ⟨M1, hM1, a1, a2⟩ := hS.1 M k p u h hp
  rw [hM1, Option.bind_some]
  have gg := GD_SUMr hT (ord := ord) r k p u hp h.2.2.2.2.2.2.2.2.1
  unfold pCmp
  have n10 : ¬ (1 : Int32) = 0 := by decide
  cases hsub : SUMr ord T r k p u with
  | inl j =>
    rw [hsub] at a2
    have hbad : BAD M1 := bad_of h.1 a1 a2
    rw [r_takes_n hbad, Option.bind_some, if_pos rfl, r_takes_n hbad, Option.bind_some, if_pos rfl, r_must_n hbad, Option.bind_some, hS.2 M1 hbad, Option.bind_some, TT_some]
    exact ⟨hF0.tr a1, a2⟩
  | inr x =>
    rw [hsub] at a2 gg
    obtain ⟨g1, g2, g3, g4, g5, g6⟩ := gg
    have t60 : f_X12_takes0 M1 47 (100 + 60) = some (if rc (T x.1) = 160 then (ADV M1 x.1, 1) else (M1, 0)) := r_takes_y a2 (c := 160) (by decide)
    have t62 : f_X12_takes0 M1 47 (100 + 62) = some (if rc (T x.1) = 162 then (ADV M1 x.1, 1) else (M1, 0)) := r_takes_y a2 (c := 162) (by decide)
    have t61 : f_X12_must M1 47 (100 + 61) = some (if rc (T x.1) = 161 then ADV M1 x.1 else FLT M1 pl x.1) := r_must_y a2 (c := 161) (by decide)
    have c60 : rc (T x.1) = 160 ↔ T x.1 = 60 := sgc 60 (by decide)
    have c62 : rc (T x.1) = 162 ↔ T x.1 = 62 := sgc 62 (by decide)
    have c61 : rc (T x.1) = 161 ↔ T x.1 = 61 := sgc 61 (by decide)
    have go : ∀ o, opC (T x.1) = some o → x.1 < len → TT (Option.bind (f_X12_readSum 100 (ADV M1 x.1) 47 (nI (8 - r))) (fun q44 => some q44)) (RPQ M0 T len pl ord (match SUMr ord T r (x.1 + 1) x.2.1 (u + x.2.2.length) with
        | .inl j => .inl j
        | .inr y => .inr (y.1, y.2.1, x.2.2 ++ y.2.2 ++ [o]))) := by
      intro o ho hxl
      obtain ⟨M2, hM2, b1', b2⟩ := hS.1 (ADV M1 x.1) (x.1 + 1) x.2.1 (u + x.2.2.length) (a2.adv hxl) g4
      rw [hM2, Option.bind_some, TT_some]
      cases hs2 : SUMr ord T r (x.1 + 1) x.2.1 (u + x.2.2.length) with
      | inl j =>
        rw [hs2] at b2
        exact ⟨((hF0.tr a1).tr fr_adv).tr b1', b2⟩
      | inr y =>
        rw [hs2] at b2
        exact ⟨((hF0.tr a1).tr fr_adv).tr b1', b2⟩
    rw [t60, Option.bind_some]
    simp only
    rcases opC_or (T x.1) with ⟨e, e2⟩ | ⟨e, e2⟩ | ⟨e, e2⟩ | ⟨e1, e2, e3, e4⟩
    · have hxl : x.1 < len := lt_of_T hT e (by decide)
      rw [if_pos (c60.mpr e), e2]
      simp only [n10, if_false]
      exact go 8 e2 hxl
    · have hxl : x.1 < len := lt_of_T hT e (by decide)
      rw [if_neg (show ¬ rc (T x.1) = 160 from fun w => by have := c60.mp w; omega), e2]
      simp only [if_true]
      rw [t62, Option.bind_some, if_pos (c62.mpr e)]
      simp only [n10, if_false]
      exact go 9 e2 hxl
    · have hxl : x.1 < len := lt_of_T hT e (by decide)
      rw [if_neg (show ¬ rc (T x.1) = 160 from fun w => by have := c60.mp w; omega), e2]
      simp only [if_true]
      rw [t62, Option.bind_some, if_neg (show ¬ rc (T x.1) = 162 from fun w => by have := c62.mp w; omega)]
      simp only [if_true]
      rw [t61, Option.bind_some, if_pos (c61.mpr e)]
      exact go 10 e2 hxl
    · rw [if_neg (fun w => e1 (c60.mp w)), e4]
      simp only [if_true]
      rw [t62, Option.bind_some, if_neg (fun w => e2 (c62.mp w))]
      simp only [if_true]
      rw [t61, Option.bind_some, if_neg (fun w => e3 (c61.mp w)), hS.2 _ (bad_flt a2), Option.bind_some, TT_some]
      exact RPQ_flt a2 (hF0.tr a1)
theorem RP_plain (hT : ∀ j, len ≤ j → T j = 256) {d r : Nat} (hr : r ≤ 8) {rd : PF3} (hrd : ∀ M k p u, RPS M T len pl ord k p → p ≤ 50 → T k = 40 → TT (bv (fun (s56 : Mem) => Option.bind (f_X12_fine s56 47) (fun q60 => if q60 = 0 then (some s56) else (bv (wI s56 47 23 ((mI s56 47 23) + 1)) (fun M63 => Option.bind (f_X12_readTest d M63 47 (nI (8 - r) + 1)) (fun q67 => Option.bind (f_X12_must q67 47 (100 + 41)) (fun q75 => some q75)))))) (fun j55 => if nI (8 - r) = 8 then (Option.bind (f_X12_faults M 47) (fun q80 => j55 q80)) else (j55 M))) (RPQ M T len pl ord (rd k p u))) : RP (f_X12_readPlain (d + 1)) (8 - r) T len pl ord (pPlain ord T rd r) := by
  refine ⟨fun M k p u h hp => ?_, fun M h => ?_⟩
  · show TT (b_X12_readPlain (f_X12_readTest d) M 47 (nI (8 - r))) _
    unfold b_X12_readPlain
    rw [TT_bind]
    refine (show TT (loopO rnL (M, 1)) _ from (rn_nots hT 400 k M (by omega) Fr.rf h)).mono ?_
    rintro M1 ⟨a1, a2⟩
    obtain ⟨g1, g2, g3, g4, g5, g6, g7, g8, g9, g10⟩ := id a2
    have hM := g1
    have hrr := rc_le (T (nots T 400 k))
    unfold LayM at hM
    unfold f_X12_sign
    rw [r_fine_y a2]
    simp only [hM, grd_T, Option.bind_some, g6]
    rw [if_neg (show ¬ (1 : Int32) = 0 by decide), grd_y ((nvp (by omega)).mpr (by omega)), nclampI (by omega), (g3 _ g9).1, TT_bv]
    have c40 : (nI (rc (T (nots T 400 k))) = 100 + 40) ↔ T (nots T 400 k) = 40 := sg 40 (by decide)
    unfold pPlain
    generalize nots T 400 k = k0 at *
    have fin : ∀ (z : PR) (M2 : Mem), RPQ M T len pl ord z M2 → RPQ M T len pl ord (match z with
        | .inl j => .inl j
        | .inr x => .inr (x.1, x.2.1, if (k0 - k) % 2 = 1 then x.2.2 ++ [11] else x.2.2)) M2 := by
      intro z M2 hz
      cases z with
      | inl j => exact hz
      | inr x => exact hz
    by_cases q : T k0 = 40
    · rw [if_pos (c40.mpr q), if_pos q]
      refine (hrd M1 k0 p u a2 hp q).mono ?_
      intro M2 hM2
      exact fin _ M2 ⟨a1.tr hM2.1, hM2.2⟩
    · rw [if_neg (fun w => q (c40.mp w)), if_neg q]
      refine (RP_cmp (u := u) hT hr a2 hp a1).mono ?_
      intro M2 hM2
      exact fin _ M2 hM2
  · have hM := h.1
    show b_X12_readPlain (f_X12_readTest d) M 47 (nI (8 - r)) = some M
    unfold b_X12_readPlain
    have e : rnL (M, 1) = some (.inl (M, 0)) := by
      unfold LayM at hM
      unfold rnL
      rw [if_neg (show ¬ (1 : Int32) = 0 by decide), grd_y hM.1, r_takes_n h]
      rfl
    have e2 : rnL (M, 0) = some (.inr M) := by
      unfold rnL
      rw [if_pos rfl]
    have e3 : loopO rnL (M, 1) = some M := by
      rw [loopO_eq, e]
      simp only
      rw [loopO_eq, e2]
    show Option.bind (loopO rnL (M, 1)) _ = some M
    rw [e3, Option.bind_some, r_fine_n h]
    unfold LayM at hM
    simp only [hM, grd_T, Option.bind_some, if_true]
theorem RP_test_of (hT : ∀ j, len ≤ j → T j = 256) {d dep : Nat} {f : PF3} (hg : GD len f) (h : RP (f_X12_readPlain d) dep T len pl ord f) : RP (f_X12_readTest (d + 2)) dep T len pl ord (pSeqJ T (pSeqJ T f 264 13) 263 12) := by
  have hbo : RP (f_X12_readBoth (d + 1)) dep T len pl ord (pSeqJ T f 264 13) := RP_seqJ hT (by decide) hg h RSJ_and (fun M hM => grd_y (by unfold LayM at hM; exact hM.1))
  exact RP_seqJ hT (by decide) (GD_seqJ hT hg (by decide)) hbo RSJ_or (fun M hM => grd_y (by unfold LayM at hM; exact hM.1))
theorem RP_TESTr (hT : ∀ j, len ≤ j → T j = 256) : ∀ r d, r ≤ 8 → RP (f_X12_readTest (3 * r + d + 3)) (8 - r) T len pl ord (TESTr ord T r)
  | 0, d, _ => by
    rw [show 3 * 0 + d + 3 = (d + 1) + 2 by omega]
    exact RP_test_of hT (GD_plain hT 0 (fun k p u hp hk _ => hk)) (RP_plain hT (by omega) (fun M k p u h hp hTk => RP_deep h))
  | r + 1, d, hr => by
    rw [show 3 * (r + 1) + d + 3 = (3 * r + d + 3 + 1) + 2 by omega]
    have hs := RP_TESTr hT r d (by omega)
    rw [show 8 - r = 8 - (r + 1) + 1 by omega] at hs
    exact RP_test_of hT (GD_plain hT (r + 1) (fun k p u hp hk e => GD_sq hT (by decide) (GD_TESTr hT r) (T0 := 40) (by decide) hp e)) (RP_plain hT hr (fun M k p u h hp hTk => RP_sq hT (c := 41) (by decide) (op := 40) (by decide) (by omega) (GD_TESTr hT r) hs M k p u h hp hTk))
theorem RP_T (hT : ∀ j, len ≤ j → T j = 256) : RP (f_X12_readTest 100) 0 T len pl ord (TESTr ord T 8) := RP_TESTr hT 8 73 (by omega)
theorem RP_S0 (hT : ∀ j, len ≤ j → T j = 256) : RP (f_X12_readSum 100) 0 T len pl ord (SUMr ord T 8) := RP_S hT (r := 8) (by omega)
end
