/-! the reference reads rows of PARTS, of TERMS, of tests -/
noncomputable def rsB (g : Mem → Nat → Int32 → Option Mem) (p1 : Int32) : Mem → Option (Mem ⊕ Mem) := (fun s7 => Option.bind (f_X12_sign 43) (fun q16 => Option.bind (f_X12_takes0 s7 47 q16) (fun q19 => bv (fun (s25 : Mem) => Option.bind (g s25 47 p1) (fun q29 => some (.inl q29))) (fun j24 => if q19.2 = 0 then (Option.bind (f_X12_sign 45) (fun q34 => Option.bind (f_X12_takes0 q19.1 47 q34) (fun q37 => if q37.2 = 0 then (some (.inr q37.1)) else (j24 q37.1)))) else (j24 q19.1)))))
noncomputable def rtB (g : Mem → Nat → Int32 → Option Mem) (p1 : Int32) : Mem → Option (Mem ⊕ Mem) := (fun s7 => Option.bind (f_X12_sign 42) (fun q16 => Option.bind (f_X12_takes0 s7 47 q16) (fun q19 => bv (fun (s25 : Mem) => Option.bind (g s25 47 p1) (fun q29 => some (.inl q29))) (fun j24 => if q19.2 = 0 then (Option.bind (f_X12_sign 47) (fun q34 => Option.bind (f_X12_takes0 q19.1 47 q34) (fun q37 => if q37.2 = 0 then (Option.bind (f_X12_sign 37) (fun q42 => Option.bind (f_X12_takes0 q37.1 47 q42) (fun q45 => if q45.2 = 0 then (some (.inr q45.1)) else (j24 q45.1)))) else (j24 q37.1)))) else (j24 q19.1)))))
noncomputable def reB (g : Mem → Nat → Int32 → Option Mem) (p1 : Int32) : Mem → Option (Mem ⊕ Mem) := (fun s7 => Option.bind (f_X12_takes0 s7 47 4) (fun q16 => if q16.2 = 0 then (some (.inr q16.1)) else (Option.bind (g q16.1 47 p1) (fun q21 => some (.inl q21)))))
noncomputable def roB (g : Mem → Nat → Int32 → Option Mem) (p1 : Int32) : Mem → Option (Mem ⊕ Mem) := (fun s7 => Option.bind (f_X12_takes0 s7 47 5) (fun q16 => if q16.2 = 0 then (some (.inr q16.1)) else (Option.bind (g q16.1 47 p1) (fun q21 => some (.inl q21)))))
theorem bad_of {M M1 : Mem} {n : Nat} (hM : LayM M) (hF : Fr Srp M M1) (h : mI M1 47 25 = nI n ∧ n < 2147483648) : BAD M1 := ⟨hM.fr hF, by rw [h.1]; exact nne_m1 h.2⟩
section
variable {T : Nat → Nat} {len : Nat} {pl : Nat → Nat} {ord : Bool}
/-- a step of a row that the reference reads -/
def RSTEP (bd : Mem → Option (Mem ⊕ Mem)) (g : Mem → Nat → Int32 → Option Mem) (dep : Nat) (op : Nat → Option Nat) (T : Nat → Nat) (len : Nat) (pl : Nat → Nat) (ord : Bool) : Prop := (∀ s, BAD s → bd s = some (.inr s)) ∧ ∀ s k p, RPS s T len pl ord k p → (op (T k) = none → bd s = some (.inr s)) ∧ ∀ o, op (T k) = some o → bd s = Option.bind (g (ADV s k) 47 (nI dep)) (fun q => some (.inl q))
theorem RP_loop (hT : ∀ j, len ≤ j → T j = 256) {bd : Mem → Option (Mem ⊕ Mem)} {g : Mem → Nat → Int32 → Option Mem} {dep : Nat} {op : Nat → Option Nat} (hne : ∀ t o, op t = some o → t ≠ 256) {sub : PF3} (hg : GD len sub) (hs : RP g dep T len pl ord sub) (hb : RSTEP bd g dep op T len pl ord) {M : Mem} {u : Nat} : ∀ n k p acc M1, 400 ≤ n + k → p ≤ 50 → Fr Srp M M1 → RPS M1 T len pl ord k p → TT (loopO bd M1) (RPQ M T len pl ord (lpS T sub op u n k p acc)) := by
  intro n
  induction n with
  | zero =>
    intro k p acc M1 hn hp hF h
    have hk : op (T k) = none := by
      cases ho : op (T k) with
      | none => rfl
      | some o =>
        have h1 := hne _ _ ho
        have h2 := h.2.1
        exact absurd (hT k (by omega)) h1
    rw [loopO_eq, ((hb.2 M1 k p h).1 hk)]
    exact ⟨_, rfl, hF, h⟩
  | succ n ih =>
    intro k p acc M1 hn hp hF h
    rw [lpS]
    cases ho : op (T k) with
    | none =>
      rw [loopO_eq, ((hb.2 M1 k p h).1 ho)]
      exact ⟨_, rfl, hF, h⟩
    | some o =>
      have hkl : k < len := lt_of_T hT (t := T k) rfl (hne _ _ ho)
      obtain ⟨M2, hM2, a1, a2⟩ := hs.1 (ADV M1 k) (k + 1) p (u + acc.length) (h.adv hkl) hp
      rw [loopO_eq, ((hb.2 M1 k p h).2 o ho), hM2, Option.bind_some]
      have gg := hg (k + 1) p (u + acc.length) hp hkl
      simp only
      cases hsub : sub (k + 1) p (u + acc.length) with
      | inl j =>
        rw [hsub] at a2
        have hbad : BAD M2 := bad_of (h.adv hkl).1 a1 a2
        rw [loopO_eq, hb.1 M2 hbad]
        exact ⟨_, rfl, (hF.tr fr_adv).tr a1, a2⟩
      | inr x =>
        rw [hsub] at a2 gg
        obtain ⟨g1, g2, g3, g4, g5, g6⟩ := gg
        exact ih x.1 x.2.1 _ M2 (by omega) g4 ((hF.tr fr_adv).tr a1) a2
theorem RP_seq (hT : ∀ j, len ≤ j → T j = 256) {bd : Mem → Option (Mem ⊕ Mem)} {g F : Mem → Nat → Int32 → Option Mem} {dep : Nat} {op : Nat → Option Nat} (hne : ∀ t o, op t = some o → t ≠ 256) {sub : PF3} (hg : GD len sub) (hs : RP g dep T len pl ord sub) (hb : RSTEP bd g dep op T len pl ord) (hF2 : ∀ M, LayM M → F M 47 (nI dep) = Option.bind (g M 47 (nI dep)) (fun q2 => Option.bind (loopO bd q2) (fun x => some x))) : RP F dep T len pl ord (pSeq T sub op) := by
  refine ⟨fun M k p u h hp => ?_, fun M h => ?_⟩
  · rw [hF2 M h.1]
    obtain ⟨M1, hM1, a1, a2⟩ := hs.1 M k p u h hp
    rw [hM1, Option.bind_some, TT_bind]
    have gg := hg k p u hp h.2.2.2.2.2.2.2.2.1
    unfold pSeq
    simp only [TT_some]
    cases hsub : sub k p u with
    | inl j =>
      rw [hsub] at a2
      have hbad : BAD M1 := bad_of h.1 a1 a2
      rw [loopO_eq, hb.1 M1 hbad]
      exact ⟨_, rfl, a1, a2⟩
    | inr x =>
      rw [hsub] at a2 gg
      obtain ⟨g1, g2, g3, g4, g5, g6⟩ := gg
      exact RP_loop hT hne hg hs hb 400 x.1 x.2.1 x.2.2 M1 (by omega) g4 a1 a2
  · rw [hF2 M h.1, hs.2 M h, Option.bind_some, loopO_eq, hb.1 M h]
    rfl
theorem sgc (c : Nat) (h : c < 256) {k : Nat} : rc (T k) = 100 + c ↔ T k = c := rc_byte h
theorem RS_sumB {g : Mem → Nat → Int32 → Option Mem} {dep : Nat} : RSTEP (rsB g (nI dep)) g dep opS T len pl ord := by
  refine ⟨fun s h => ?_, fun s k p h => ?_⟩
  · unfold rsB f_X12_sign
    simp only [Option.bind_some, r_takes_n h, bv, if_true]
  · have t43 : f_X12_takes0 s 47 (100 + 43) = some (if rc (T k) = 143 then (ADV s k, 1) else (s, 0)) := r_takes_y h (c := 143) (by decide)
    have t45 : f_X12_takes0 s 47 (100 + 45) = some (if rc (T k) = 145 then (ADV s k, 1) else (s, 0)) := r_takes_y h (c := 145) (by decide)
    have c43 : rc (T k) = 143 ↔ T k = 43 := sgc 43 (by decide)
    have c45 : rc (T k) = 145 ↔ T k = 45 := sgc 45 (by decide)
    have n10 : ¬ (1 : Int32) = 0 := by decide
    unfold rsB f_X12_sign
    simp only [Option.bind_some, t43, bv]
    refine ⟨fun ho => ?_, fun o ho => ?_⟩
    · rcases opS_or (T k) with ⟨e, e2⟩ | ⟨e, e2⟩ | ⟨e1, e2, -⟩
      · rw [e2] at ho; cases ho
      · rw [e2] at ho; cases ho
      · rw [if_neg (fun w => e1 (c43.mp w))]
        simp only [if_true, t45, Option.bind_some]
        rw [if_neg (fun w => e2 (c45.mp w))]
        simp only [if_true]
    · rcases opS_or (T k) with ⟨e, e2⟩ | ⟨e, e2⟩ | ⟨e1, e2, e3⟩
      · rw [if_pos (c43.mpr e)]
        simp only [n10, if_false]
      · rw [if_neg (show ¬ rc (T k) = 143 from fun w => by have := c43.mp w; omega)]
        simp only [if_true, t45, Option.bind_some]
        rw [if_pos (c45.mpr e)]
        simp only [n10, if_false]
      · rw [e3] at ho; cases ho
theorem RS_termB {g : Mem → Nat → Int32 → Option Mem} {dep : Nat} : RSTEP (rtB g (nI dep)) g dep opT T len pl ord := by
  refine ⟨fun s h => ?_, fun s k p h => ?_⟩
  · unfold rtB f_X12_sign
    simp only [Option.bind_some, r_takes_n h, bv, if_true]
  · have t42 : f_X12_takes0 s 47 (100 + 42) = some (if rc (T k) = 142 then (ADV s k, 1) else (s, 0)) := r_takes_y h (c := 142) (by decide)
    have t47 : f_X12_takes0 s 47 (100 + 47) = some (if rc (T k) = 147 then (ADV s k, 1) else (s, 0)) := r_takes_y h (c := 147) (by decide)
    have t37 : f_X12_takes0 s 47 (100 + 37) = some (if rc (T k) = 137 then (ADV s k, 1) else (s, 0)) := r_takes_y h (c := 137) (by decide)
    have c42 : rc (T k) = 142 ↔ T k = 42 := sgc 42 (by decide)
    have c47 : rc (T k) = 147 ↔ T k = 47 := sgc 47 (by decide)
    have c37 : rc (T k) = 137 ↔ T k = 37 := sgc 37 (by decide)
    have n10 : ¬ (1 : Int32) = 0 := by decide
    unfold rtB f_X12_sign
    simp only [Option.bind_some, t42, bv]
    refine ⟨fun ho => ?_, fun o ho => ?_⟩
    · rcases opT_or (T k) with ⟨e, e2⟩ | ⟨e, e2⟩ | ⟨e, e2⟩ | ⟨e1, e2, e3, -⟩
      · rw [e2] at ho; cases ho
      · rw [e2] at ho; cases ho
      · rw [e2] at ho; cases ho
      · rw [if_neg (fun w => e1 (c42.mp w))]
        simp only [if_true, t47, Option.bind_some]
        rw [if_neg (fun w => e2 (c47.mp w))]
        simp only [if_true, t37, Option.bind_some]
        rw [if_neg (fun w => e3 (c37.mp w))]
        simp only [if_true]
    · rcases opT_or (T k) with ⟨e, e2⟩ | ⟨e, e2⟩ | ⟨e, e2⟩ | ⟨e1, e2, e3, e4⟩
      · rw [if_pos (c42.mpr e)]
        simp only [n10, if_false]
      · rw [if_neg (show ¬ rc (T k) = 142 from fun w => by have := c42.mp w; omega)]
        simp only [if_true, t47, Option.bind_some]
        rw [if_pos (c47.mpr e)]
        simp only [n10, if_false]
      · rw [if_neg (show ¬ rc (T k) = 142 from fun w => by have := c42.mp w; omega)]
        simp only [if_true, t47, Option.bind_some]
        rw [if_neg (show ¬ rc (T k) = 147 from fun w => by have := c47.mp w; omega)]
        simp only [if_true, t37, Option.bind_some]
        rw [if_pos (c37.mpr e)]
        simp only [n10, if_false]
      · rw [e4] at ho; cases ho
/-- brackets of either kind -/
theorem RP_sq (hT : ∀ j, len ≤ j → T j = 256) {G : Mem → Nat → Int32 → Option Mem} {dep c op : Nat} (hc : c < 256) (hop : op ≠ 256) (hd : dep < 8) {inner : PF3} (hg : GD len inner) (hs : RP G (dep + 1) T len pl ord inner) : ∀ M k p u, RPS M T len pl ord k p → p ≤ 50 → T k = op → TT (bv (fun (s56 : Mem) => Option.bind (f_X12_fine s56 47) (fun q60 => if q60 = 0 then (some s56) else (bv (wI s56 47 23 ((mI s56 47 23) + 1)) (fun M63 => Option.bind (G M63 47 (nI dep + 1)) (fun q67 => Option.bind (f_X12_must q67 47 (100 + nI c)) (fun q75 => some q75)))))) (fun j55 => if nI dep = 8 then (Option.bind (f_X12_faults M 47) (fun q80 => j55 q80)) else (j55 M))) (RPQ M T len pl ord (pSq T c inner k p u)) := by
  intro M k p u h hp hTk
  have hkl : k < len := lt_of_T hT hTk hop
  have g6 : mI M 47 23 = nI k := h.2.2.2.2.2.1
  simp only [bv]
  rw [if_neg (show ¬ nI dep = 8 from fun w => by have := (eL (t := dep) (by omega) 8 (by decide)).mp w; omega), r_fine_y h, Option.bind_some, if_neg (show ¬ (1 : Int32) = 0 by decide), g6, nsucc, nsucc]
  obtain ⟨M1, hM1, a1, a2⟩ := hs.1 (ADV M k) (k + 1) p u (h.adv hkl) hp
  rw [show wI M 47 23 (nI (k + 1)) = ADV M k from rfl, hM1, Option.bind_some]
  unfold pSq
  cases hi : inner (k + 1) p u with
  | inl j =>
    rw [hi] at a2
    have hbad : BAD M1 := bad_of (h.adv hkl).1 a1 a2
    rw [r_must_n hbad, Option.bind_some, TT_some]
    exact ⟨fr_adv.tr a1, a2⟩
  | inr x =>
    rw [hi] at a2
    rw [show (100 : Int32) = nI 100 from rfl, nadd, r_must_y a2 (by omega), Option.bind_some, TT_some]
    simp only
    by_cases q : T x.1 = c
    · have hxl : x.1 < len := lt_of_T hT q (by omega)
      rw [if_pos ((rc_byte hc).mpr q), if_pos q]
      exact ⟨(fr_adv.tr a1).tr fr_adv, a2.adv hxl⟩
    · rw [if_neg (fun w => q ((rc_byte hc).mp w)), if_neg q]
      exact RPQ_flt a2 (fr_adv.tr a1)
theorem RP_deep {G : Mem → Nat → Int32 → Option Mem} {c : Int32} {M : Mem} {k p : Nat} (h : RPS M T len pl ord k p) : TT (bv (fun (s56 : Mem) => Option.bind (f_X12_fine s56 47) (fun q60 => if q60 = 0 then (some s56) else (bv (wI s56 47 23 ((mI s56 47 23) + 1)) (fun M63 => Option.bind (G M63 47 (nI 8 + 1)) (fun q67 => Option.bind (f_X12_must q67 47 c) (fun q75 => some q75)))))) (fun j55 => if nI 8 = 8 then (Option.bind (f_X12_faults M 47) (fun q80 => j55 q80)) else (j55 M))) (RPQ M T len pl ord (.inl k)) := by
  simp only [bv]
  rw [if_pos (show nI 8 = 8 from rfl), r_faults_y h, Option.bind_some, r_fine_n (bad_flt h), Option.bind_some, if_pos rfl, TT_some]
  exact RPQ_flt h Fr.rf
theorem RP_sum_of (hT : ∀ j, len ≤ j → T j = 256) {d dep : Nat} {f : PF3} (hg : GD len f) (h : RP (f_X12_readPart d) dep T len pl ord f) : RP (f_X12_readSum (d + 2)) dep T len pl ord (pSeq T (pSeq T f opT) opS) := by
  have ht : RP (f_X12_readTerm (d + 1)) dep T len pl ord (pSeq T f opT) := RP_seq hT (fun _ _ => opT_ne) hg h RS_termB (fun M hM => grd_y (by unfold LayM at hM; exact hM.1))
  exact RP_seq hT (fun _ _ => opS_ne) (GD_seq hT hg (fun _ _ => opT_ne)) ht RS_sumB (fun M hM => grd_y (by unfold LayM at hM; exact hM.1))
theorem RP_SUMr (hT : ∀ j, len ≤ j → T j = 256) : ∀ r d, r ≤ 8 → RP (f_X12_readSum (3 * r + d + 3)) (8 - r) T len pl ord (SUMr ord T r)
  | 0, d, _ => by
    rw [show 3 * 0 + d + 3 = (d + 1) + 2 by omega]
    exact RP_sum_of hT (GD_part hT GD_no) (RP_part hT (fun M k p u h hp hTk => RP_deep h))
  | r + 1, d, hr => by
    rw [show 3 * (r + 1) + d + 3 = (3 * r + d + 3 + 1) + 2 by omega]
    have hs := RP_SUMr hT r d (by omega)
    rw [show 8 - r = 8 - (r + 1) + 1 by omega] at hs
    exact RP_sum_of hT (GD_partq hT (by decide) (GD_SUMr hT r)) (RP_part hT (fun M k p u h hp hTk => RP_sq hT (c := 93) (by decide) (op := 91) (by decide) (by omega) (GD_SUMr hT r) hs M k p u h hp hTk))
theorem RP_S (hT : ∀ j, len ≤ j → T j = 256) {r : Nat} (hr : r ≤ 8) : RP (f_X12_readSum 100) (8 - r) T len pl ord (SUMr ord T r) := by
  have := RP_SUMr (pl := pl) (ord := ord) hT r (97 - 3 * r) hr
  rw [show 3 * r + (97 - 3 * r) + 3 = 100 by omega] at this
  exact this
end
