/-! the class reads PARTS, TERMS, SUMS -/
section
variable {T : Nat → Nat} {len : Nat} {pl : Nat → Nat} {ord : Bool}
theorem PSQ.bl {M : Mem} {u : Nat} {ay : Bool} {r : PR} {q : Mem × Int32} (h : PSQ M T len pl ord u ay r q) : bl q.2 := by
  obtain ⟨-, -, h⟩ := h
  cases r with
  | inl j => rw [h.1]; rfl
  | inr x => rw [h.1]; rfl
theorem PC_part (hT : ∀ j, len ≤ j → T j = 256) {d dep : Nat} {sq : PF3} (hs : ∀ M k p u ay, CP M T len pl ord k p u ay → p ≤ 50 → u ≤ k → T k = 91 → TT (f_X7_inSquare d M 11 (nI dep)) (PSQ M T len pl ord u ay (sq k p u))) : PC (f_X7_part (d + 1)) dep T len pl ord (pPart ord T sq) := by
  intro M k p u ay h hp hu
  obtain ⟨h1, h2, h3, h4, h5, h6, h7, h8, h9, h10, h11⟩ := id h
  have hb := h3 k
  have hC := h1
  unfold LayC at hC
  show TT (b_X7_part (f_X7_inSquare d) M 11 (nI dep)) _
  unfold b_X7_part
  simp only [hC, grd_T, bv, h7, h8, Option.bind_some]
  unfold pPart
  have e91 : (nI (T k) = 91) ↔ T k = 91 := eL hb 91 (by decide)
  by_cases q1 : T k = 91
  · rw [if_pos (e91.mpr q1), if_pos q1, TT_bind]
    refine (hs M k p u ay h hp hu q1).mono ?_
    intro q hq
    rw [grd_y hq.bl, TT_some]
    exact hq
  rw [if_neg (fun w => q1 (e91.mp w)), if_neg q1]
  obtain ⟨qf, f1, f2, f3⟩ := PSQ_fail h (M0 := M) (u0 := u) (ay0 := ay) (Nat.le_refl u) Fr.rf (fun i _ => rfl)
  have fail0 : TT (Option.bind (f_X7_fail M 11) (fun q6 => grd (bl q6.2) (some (q6.1, q6.2)))) (PSQ M T len pl ord u ay (.inl k)) := by
    rw [f1, Option.bind_some, grd_y f2, TT_some]
    exact f3
  by_cases q2 : 50 ≤ p
  · rw [if_pos (show (50 : Int32) ≤ nI p from (nleI (by decide) (by omega)).mpr q2), if_pos (Or.inl q2)]
    exact fail0
  rw [if_neg (show ¬ (50 : Int32) ≤ nI p from fun w => q2 ((nleI (a := 50) (by decide) (by omega)).mp w))]
  by_cases q3 : 2000 < T k
  · rw [if_neg (show ¬ nI (T k) ≤ 2000 from fun w => by have := (nleI (b := 2000) hb (by decide)).mp w; omega), if_pos (Or.inr q3)]
    exact fail0
  rw [if_pos (show nI (T k) ≤ 2000 from (nleI (b := 2000) hb (by decide)).mpr (by omega)), if_neg (show ¬ (50 ≤ p ∨ 2000 < T k) by omega), nsucc]
  have hF1 : Fr Sps M (wI M 11 9 (nI (p + 1))) := Fr.rf.wI (Or.inl (by omega))
  have hc1 : CP (wI M 11 9 (nI (p + 1))) T len pl ord k (p + 1) u ay := h.fr hF1 (by rw [mI_wI_ne (by decide)]) (by rw [mI_wI_ne (by decide)]; exact h6) (by rw [mI_wI_ne (by decide)]; exact h7) mI_wIs (by rw [mI_wI_row (by decide)]; exact h9) (by rw [mI_wI_row (by decide)]; exact h10) h11
  have h17 : ∀ i, mI (wI M 11 9 (nI (p + 1))) 17 i = mI M 17 i := fun i => by rw [mI_wI_row (by decide)]
  generalize wI M 11 9 (nI (p + 1)) = M1 at hF1 hc1 h17 ⊢
  obtain ⟨g1, g2, g3, g4, g5, g6, g7, g8, g9, g10, g11⟩ := id hc1
  rw [g7]
  by_cases q4 : 1000 ≤ T k
  · have hkl : k < len := lt_of_T hT (t := T k) rfl (by omega)
    rw [if_neg (show ¬ nI (T k) < 1000 from fun w => by have := (lL hb 1000 (by decide)).mp w; omega), if_pos q4]
    have gC := g1
    unfold LayC at gC
    simp only [gC, grd_T, Option.bind_some]
    rw [show (1000 : Int32) = nI 1000 from rfl, nsub (by omega), show (1 : Int32) = nI 1 from rfl, c_emit hc1 (by omega), Option.bind_some]
    simp only
    rw [c_next hT hc1.emt hkl, Option.bind_some, TT_some]
    refine ⟨(hF1.tr fr_emt).tr fr_nxt, fun i hi => ?_, rfl, ay, hc1.emt.nxt hkl, ?_, fun w => w, ?_⟩
    · rw [nxt_17, emt_17, if_neg (by omega), h17]
    · intro i v hv
      have hi : i < 1 := (List.getElem?_eq_some_iff.mp hv).1
      obtain rfl : i = 0 := by omega
      cases hv
      rw [nxt_17, emt_17, if_pos (by omega)]
    · intro _ _ v hv
      rw [List.mem_singleton.mp hv]
      omega
  rw [if_pos (show nI (T k) < 1000 from (lL hb 1000 (by decide)).mpr (by omega)), if_neg q4, g5]
  -- a word
  have word : ∀ (M2 : Mem) (ay2 : Bool), Fr Sps M1 M2 → CP M2 T len pl ord (wdK (wrd ord T k)) (p + 1) u ay2 → (∀ i, mI M2 17 i = mI M1 17 i) → (ay = true → ay2 = true) → (ord = false → T k = 278 → ay2 = true) → TT (if (wdO (wrd ord T k)) = -1 then (Option.bind (f_X7_fail M2 11) (fun q33 => grd (bl q33.2) (some (q33.1, q33.2)))) else (Option.bind (mR M2 11 3) (fun r21 => grd (okO M2 9 r21) (Option.bind (f_X9_emit M2 r21 2 (wdO (wrd ord T k))) (fun q23 => Option.bind (f_X7_next q23.1 11) (fun q28 => some (q28, 1))))))) (PSQ M T len pl ord u ay (match wrd ord T k with
        | .inl j => .inl j
        | .inr w => .inr (w.2 + 1, p + 1, [16 * w.1 + 2]))) := by
    intro M2 ay2 hF2 hc2 h172 hay hyr
    cases hw : wrd ord T k with
    | inl j =>
      rw [hw] at hc2
      obtain ⟨qf, f1, f2, f3⟩ := PSQ_fail hc2 (M0 := M) (u0 := u) (ay0 := ay) (Nat.le_refl u) (hF1.tr hF2) (fun i _ => by rw [h172, h17])
      rw [if_pos (show wdO (.inl j) = -1 from rfl), f1, Option.bind_some, grd_y f2, TT_some]
      exact f3
    | inr w =>
      rw [hw] at hc2
      have facts : w.1 < 88 ∧ w.2 < len ∧ k ≤ w.2 ∧ (ord = false → w.1 = 6 → T k = 278) := by
        unfold wrd at hw
        cases ord with
        | false =>
          simp only [Bool.false_eq_true, if_false] at hw
          split at hw
          · rw [← Sum.inr.inj hw]
            exact ⟨by show T k - 272 < 88; omega, lt_of_T hT (t := T k) rfl (by omega), Nat.le_refl _, fun _ e => by simp only at e; omega⟩
          · cases hw
        | true =>
          simp only [if_true] at hw
          split at hw
          · rw [← Sum.inr.inj hw]
            exact ⟨by show T k - 280 < 88; omega, lt_of_T hT (t := T k) rfl (by omega), Nat.le_refl _, fun e => by cases e⟩
          split at hw
          · cases hw
          split at hw
          · cases hw
          split at hw
          · rw [← Sum.inr.inj hw]
            exact ⟨by show 4 + (T (k + 1) - 1000) < 88; omega, lt_of_T hT (t := T (k + 1)) rfl (by omega), by show k ≤ k + 1; omega, fun e => by cases e⟩
          split at hw
          · cases hw
          · rw [← Sum.inr.inj hw]
            exact ⟨by show 16 + (T (k + 1) - 1000) * 6 + (T (k + 2) - 1000) < 88; omega, lt_of_T hT (t := T (k + 2)) rfl (by omega), by show k ≤ k + 2; omega, fun e => by cases e⟩
      obtain ⟨w1, w2, w3, w4⟩ := facts
      have g1 := hc2.1
      unfold LayC at g1
      rw [if_neg (show ¬ wdO (.inr w) = -1 from nne_m1 (by omega)), show wdO (.inr w) = nI w.1 from rfl]
      simp only [g1, grd_T, Option.bind_some]
      rw [show (2 : Int32) = nI 2 from rfl, c_emit hc2 (by omega), Option.bind_some]
      simp only
      rw [c_next hT hc2.emt w2, Option.bind_some, TT_some]
      refine ⟨((hF1.tr hF2).tr fr_emt).tr fr_nxt, fun i hi => ?_, rfl, ay2, hc2.emt.nxt w2, ?_, hay, ?_⟩
      · rw [nxt_17, emt_17, if_neg (by omega), h172, h17]
      · intro i v hv
        have hi : i < 1 := (List.getElem?_eq_some_iff.mp hv).1
        obtain rfl : i = 0 := by omega
        cases hv
        rw [nxt_17, emt_17, if_pos (by omega)]
      · intro ho ha v hv
        rw [List.mem_singleton.mp hv]
        intro e
        have := hyr ho (w4 ho (by omega))
        rw [this] at ha
        cases ha
  cases ord with
  | false =>
    rw [if_pos (show b1 false = 0 from rfl)]
    obtain ⟨M2, ay2, e1, e2, e3, e4, e5, e6⟩ := c_lawWord hc1
    rw [e1, Option.bind_some]
    exact word M2 ay2 e2 e3 e4 e5 (fun _ => e6)
  | true =>
    rw [if_neg (show ¬ b1 true = 0 by decide)]
    obtain ⟨M2, e1, e2, e3, e4⟩ := c_orderWord hT hc1
    rw [e1, Option.bind_some]
    exact word M2 ay e2 e3 e4 (fun w => w) (fun w => by cases w)
/-- brackets of either kind -/
theorem PC_sq (hT : ∀ j, len ≤ j → T j = 256) {G : Mem → Nat → Int32 → Option (Mem × Int32)} {dep c op : Nat} (hc : c < 256) (hop : op ≠ 256) (hd : dep < 8) {inner : PF3} (hg : GD len inner) (hs : PC G (dep + 1) T len pl ord inner) : ∀ M k p u ay, CP M T len pl ord k p u ay → p ≤ 50 → u ≤ k → T k = op → TT (if nI dep < 8 then (grd (okO M 7 11) (Option.bind (f_X7_next M 11) (fun q2 => Option.bind (G q2 11 (nI dep + 1)) (fun q7 => if q7.2 = 0 then (some (q7.1, 0)) else (if (mI q7.1 11 8) = nI c then (Option.bind (f_X7_next q7.1 11) (fun q12 => some (q12, 1))) else (Option.bind (f_X7_fail q7.1 11) (fun q17 => grd (bl q17.2) (some (q17.1, q17.2))))))))) else (grd (okO M 7 11) (Option.bind (f_X7_fail M 11) (fun q24 => grd (bl q24.2) (some (q24.1, q24.2)))))) (PSQ M T len pl ord u ay (pSq T c inner k p u)) := by
  intro M k p u ay h hp hu hTk
  obtain ⟨h1, h2, h3, h4, h5, h6, h7, h8, h9, h10, h11⟩ := id h
  have hkl : k < len := lt_of_T hT hTk hop
  have hC := h1
  unfold LayC at hC
  rw [if_pos (show nI dep < 8 from (lL (by omega) 8 (by decide)).mpr hd)]
  simp only [hC, grd_T]
  rw [c_next hT h hkl, Option.bind_some, nsucc, TT_bind]
  have hc1 := h.nxt hkl
  refine (hs _ (k + 1) p u ay hc1 hp (by omega)).mono ?_
  rintro ⟨M1, y⟩ ⟨a1, a2, a3⟩
  have g := hg (k + 1) p u hp hkl
  unfold pSq
  cases hi : inner (k + 1) p u with
  | inl j =>
    rw [hi] at a3
    simp only at a1 a2 a3 ⊢
    rw [a3.1, if_pos rfl, TT_some]
    exact ⟨fr_nxt.tr a1, fun i hi => by rw [a2 i hi, nxt_17], rfl, a3.2⟩
  | inr x =>
    rw [hi] at a3 g
    obtain ⟨b1', b2, b3, b4, b5, b6⟩ := g
    obtain ⟨c1, ay', c2, c3, c4, c5⟩ := a3
    simp only at a1 a2 c1 c2 c3 c4 c5 ⊢
    have hb := h3 x.1
    have g8 : mI M1 11 8 = nI (T x.1) := c2.2.2.2.2.2.2.1
    rw [c1, if_neg (show ¬ (1 : Int32) = 0 by decide), g8]
    have ec : (nI (T x.1) = nI c) ↔ T x.1 = c := neqI hb (by omega)
    by_cases q : T x.1 = c
    · have hxl : x.1 < len := lt_of_T hT q (by omega)
      rw [if_pos (ec.mpr q), if_pos q, c_next hT c2 hxl, Option.bind_some, TT_some]
      exact ⟨(fr_nxt.tr a1).tr fr_nxt, fun i hi => by rw [nxt_17, a2 i hi, nxt_17], rfl, ay', c2.nxt hxl, fun i v hv => by rw [nxt_17]; exact c3 i v hv, c4, c5⟩
    · obtain ⟨qf, f1, f2, f3⟩ := PSQ_fail c2 (M0 := M) (u0 := u) (ay0 := ay) (by omega) (fr_nxt.tr a1) (fun i hi => by rw [a2 i hi, nxt_17])
      rw [if_neg (fun w => q (ec.mp w)), if_neg q, f1, Option.bind_some, grd_y f2, TT_some]
      exact f3
theorem PC_deep {G : Mem → Nat → Int32 → Option (Mem × Int32)} {M : Mem} {k p u : Nat} {ay : Bool} {c : Int32} (h : CP M T len pl ord k p u ay) : TT (if nI 8 < 8 then (grd (okO M 7 11) (Option.bind (f_X7_next M 11) (fun q2 => Option.bind (G q2 11 (nI 8 + 1)) (fun q7 => if q7.2 = 0 then (some (q7.1, 0)) else (if (mI q7.1 11 8) = c then (Option.bind (f_X7_next q7.1 11) (fun q12 => some (q12, 1))) else (Option.bind (f_X7_fail q7.1 11) (fun q17 => grd (bl q17.2) (some (q17.1, q17.2))))))))) else (grd (okO M 7 11) (Option.bind (f_X7_fail M 11) (fun q24 => grd (bl q24.2) (some (q24.1, q24.2)))))) (PSQ M T len pl ord u ay (.inl k)) := by
  obtain ⟨qf, f1, f2, f3⟩ := PSQ_fail h (M0 := M) (u0 := u) (ay0 := ay) (Nat.le_refl u) Fr.rf (fun i _ => rfl)
  have hC := h.1
  unfold LayC at hC
  rw [if_neg (by decide)]
  simp only [hC, grd_T]
  rw [f1, Option.bind_some, grd_y f2, TT_some]
  exact f3
end
