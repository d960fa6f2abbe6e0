/-! the class reads CLAUSES of ORDERS -/
def tmR (r : Nat ⊕ (Nat × Nat × List Nat × Nat × Option Nat)) (fl : Nat → Int32) : PRF := match r with
  | .inl j => .inl j
  | .inr y => .inr (y.1, y.2.1, y.2.2.1, fun i => if i = 1 then nI y.2.2.2.1 else if i = 2 then (match y.2.2.2.2 with
    | some t => nI t
    | none => fl 2) else fl i)
def hwR (r : Nat ⊕ (Nat × Nat × List Nat × Nat × Option Nat × Nat)) (fl : Nat → Int32) : PRF := match r with
  | .inl j => .inl j
  | .inr h => .inr (h.1, h.2.1, h.2.2.1, fun i => if i = 0 then nI h.2.2.2.1 else if i = 4 then (match h.2.2.2.2.1 with
    | some t => nI t
    | none => fl 4) else if i = 5 then nI h.2.2.2.2.2 else fl i)
section
variable {T : Nat → Nat} {len : Nat} {pl : Nat → Nat} {ord : Bool}
theorem TT_prenxt {M : Mem} {c u k : Nat} {ay : Bool} {r : PRF} {f : Option (Mem × Int32)} (h : TT f (CQ (NXT M T k) T len pl ord c u ay r)) : TT f (CQ M T len pl ord c u ay r) := h.mono (fun _ hq => hq.prenxt)
theorem TT_preset {M : Mem} {c u f0 : Nat} {v : Int32} {ay : Bool} {r : PRF} {f : Option (Mem × Int32)} (h : TT f (CQ (wI M 16 (c * 6 + f0) v) T len pl ord c u ay r)) : TT f (CQ M T len pl ord c u ay r) := h.mono (fun _ hq => hq.pre fr_set (fun i => by rw [mI_wI_row (by decide)]) (fun j hj => by rw [mI_wI_ne (by omega)]))
theorem fail_bl {M : Mem} {k p u c : Nat} {ay : Bool} {fl : Nat → Int32} (h : CPC M T len pl ord k p u ay c fl) : TT (Option.bind (f_X7_fail M 11) (fun q41 => grd (bl q41.2) (some (q41.1, q41.2)))) (CQ M T len pl ord c u ay (.inl k)) := by
  obtain ⟨q, f1, f2, f3⟩ := CQ_fail h
  rw [f1, Option.bind_some, grd_y f2, TT_some]
  exact f3
theorem c_at (hT : ∀ j, len ≤ j → T j = 256) {M : Mem} {k p u c : Nat} {ay : Bool} {fl : Nat → Int32} (h : CPC M T len pl ord k p u ay c fl) (hp : p ≤ 50) (hu : u ≤ k) : TT (if (mI M 11 8) = 266 then (Option.bind (f_X7_next M 11) (fun q30 => Option.bind (f_X7_sumFor q30 11 5) (fun q35 => grd (bl q35.2) (some (q35.1, q35.2))))) else (Option.bind (f_X7_fail M 11) (fun q41 => grd (bl q41.2) (some (q41.1, q41.2))))) (CQ M T len pl ord c u ay (sfR (pAt ord T k p u) 5 u fl)) := by
  have h7 : mI M 11 8 = nI (T k) := h.1.2.2.2.2.2.2.1
  have hb := h.1.2.2.1 k
  have e : (nI (T k) = 266) ↔ T k = 266 := eL hb 266 (by decide)
  rw [h7]
  unfold pAt
  by_cases q : T k = 266
  · have hkl := lt_of_T hT q (by decide)
    rw [if_pos (e.mpr q), if_pos q, c_next hT h.1 hkl, Option.bind_some, show (5 : Int32) = nI 5 from rfl]
    exact TT_prenxt (tail_bl (c_sumFor hT (h.nxt hkl) hp (by omega) (by omega)))
  · rw [if_neg (fun w => q (e.mp w)), if_neg q]
    exact fail_bl h
theorem G_At (hT : ∀ j, len ≤ j → T j = 256) {k p u : Nat} (hp : p ≤ 50) (hk : k ≤ len) (hu : u ≤ k) : G0 len k p u (pAt ord T k p u) := by
  unfold pAt
  split
  · rename_i e
    have hkl := lt_of_T hT e (by decide)
    have g := G_SF hT (ord := ord) (u := u) hp hkl (by omega)
    revert g
    cases pSF ord T (k + 1) p u with
    | inl j => exact fun h => h
    | inr x =>
      rintro ⟨b1', b2, b3, b4, b5⟩
      exact ⟨by show k < x.1; omega, b2, b3, b4, b5⟩
  · exact hk
theorem sfR_inr {r : PR} {f u : Nat} {fl : Nat → Int32} {x : Nat × Nat × List Nat × (Nat → Int32)} (h : sfR r f u fl = .inr x) : ∃ y, r = .inr y ∧ x = (y.1, y.2.1, y.2.2, fun i => if i = f then nI u else fl i) := by
  cases r with
  | inl j => cases h
  | inr y => cases h; exact ⟨y, rfl, rfl⟩
theorem sfR_inl {r : PR} {f u j : Nat} {fl : Nat → Int32} (h : sfR r f u fl = .inl j) : r = .inl j := by
  cases r with
  | inl j2 => cases h; rfl
  | inr y => cases h
theorem c_how (hT : ∀ j, len ≤ j → T j = 256) {M : Mem} {k p u c : Nat} {ay : Bool} {fl : Nat → Int32} (h : CPC M T len pl ord k p u ay c fl) (hp : p ≤ 50) (hu : u ≤ k) : TT (f_X7_how M 11) (CQ M T len pl ord c u ay (hwR (pHow ord T k p u) fl)) := by
  have hC := h.1.1
  have h7 : mI M 11 8 = nI (T k) := h.1.2.2.2.2.2.2.1
  have hb := h.1.2.2.1 k
  unfold LayC at hC
  unfold f_X7_how
  simp only [hC, grd_T, bv, h7, Option.bind_some]
  unfold pHow
  by_cases q0 : T k < 267 ∨ 271 < T k
  · rw [if_pos q0]
    by_cases q1 : T k < 267
    · rw [if_pos (show nI (T k) < 267 from (lL hb 267 (by decide)).mpr q1)]
      exact fail_bl h
    · rw [if_neg (show ¬ nI (T k) < 267 from fun w => q1 ((lL hb 267 (by decide)).mp w)), if_neg (show ¬ nI (T k) ≤ 271 from fun w => by have := (nleI (b := 271) hb (by decide)).mp w; omega)]
      exact fail_bl h
  have hkl : k < len := lt_of_T hT (t := T k) rfl (by omega)
  rw [if_neg q0, if_neg (show ¬ nI (T k) < 267 from fun w => by have := (lL hb 267 (by decide)).mp w; omega), if_pos (show nI (T k) ≤ 271 from (nleI (b := 271) hb (by decide)).mpr (by omega)), show nI (T k) - 267 = nI (T k - 267) from nsub (b := 267) (by omega), show (0 : Int32) = nI 0 from rfl, c_set h (f := 0) (by omega), Option.bind_some]
  have h1 := h.set (f := 0) (v := nI (T k - 267)) (by omega)
  rw [c_next hT h1.1 hkl, Option.bind_some]
  have h2 := h1.nxt hkl
  refine TT_preset (f0 := 0) (v := nI (T k - 267)) (TT_prenxt (k := k) ?_)
  by_cases q2 : T k = 268
  · rw [if_pos q2, if_pos (show nI (T k - 267) = 1 from by rw [q2]; rfl), show (4 : Int32) = nI 4 from rfl]
    refine CQ.bind (g := fun m => if (mI m 11 8) = 266 then (Option.bind (f_X7_next m 11) (fun q30 => Option.bind (f_X7_sumFor q30 11 5) (fun q35 => grd (bl q35.2) (some (q35.1, q35.2))))) else (Option.bind (f_X7_fail m 11) (fun q41 => grd (bl q41.2) (some (q41.1, q41.2))))) (c_sumFor (f := 4) hT h2 hp (by omega) (by omega)) (fun j hj => ?_) (fun x q1 hx hq1 => ?_)
    · rw [sfR_inl hj]
      rfl
    · have gg := G_SF hT (ord := ord) (u := u) hp hkl (by omega)
      obtain ⟨y, hy, rfl⟩ := sfR_inr hx
      rw [hy] at gg ⊢
      obtain ⟨g1, g2, g3, g4, g5⟩ := gg
      have key := CQ.then hq1 (fun ay2 h3 => c_at hT h3 g4 g5)
      refine key.mono ?_
      intro q3 hq3
      simp only
      cases hat : pAt ord T y.1 y.2.1 (u + y.2.2.length) with
      | inl j =>
        simp only [hat] at hq3
        exact hq3
      | inr z =>
        simp only [hat] at hq3
        refine hq3.congr (fun i hi => ?_)
        have : i = 0 ∨ i = 1 ∨ i = 2 ∨ i = 3 ∨ i = 4 ∨ i = 5 := by omega
        rcases this with w | w | w | w | w | w <;> subst w
        · show nI (T k - 267) = nI 1
          rw [q2]
        · rfl
        · rfl
        · rfl
        · rfl
        · rfl
  · rw [if_neg q2, if_neg (show ¬ nI (T k - 267) = 1 from fun w => by have := (eL (t := T k - 267) (by omega) 1 (by decide)).mp w; omega)]
    refine (c_at hT h2 hp (by omega)).mono ?_
    intro q3 hq3
    cases hat : pAt ord T (k + 1) p u with
    | inl j =>
      rw [hat] at hq3
      exact hq3
    | inr z =>
      rw [hat] at hq3
      refine hq3.congr (fun i hi => ?_)
      have : i = 0 ∨ i = 1 ∨ i = 2 ∨ i = 3 ∨ i = 4 ∨ i = 5 := by omega
      rcases this with w | w | w | w | w | w <;> subst w <;> rfl
theorem c_times (hT : ∀ j, len ≤ j → T j = 256) {M : Mem} {k p u c : Nat} {ay : Bool} {fl : Nat → Int32} (h : CPC M T len pl ord k p u ay c fl) (hf1 : fl 1 = nI 1) (hp : p ≤ 50) (hu : u ≤ k) : TT (if (mI M 11 8) = 261 then (Option.bind (f_X7_next M 11) (fun q43 => if (mI q43 11 8) < 1001 then (Option.bind (f_X7_fail q43 11) (fun q52 => grd (bl q52.2) (some (q52.1, q52.2)))) else (if (mI q43 11 8) ≤ 1020 then (Option.bind (mR q43 11 3) (fun r58 => grd (okO q43 9 r58) (Option.bind (f_X9_set q43 r58 1 ((mI q43 11 8) - 1000)) (fun q60 => Option.bind (f_X7_next q60 11) (fun q65 => Option.bind (f_X7_condition q65 11) (fun q37 => grd (bl q37.2) (some (q37.1, q37.2)))))))) else (Option.bind (f_X7_fail q43 11) (fun q52 => grd (bl q52.2) (some (q52.1, q52.2))))))) else (Option.bind (f_X7_condition M 11) (fun q37 => grd (bl q37.2) (some (q37.1, q37.2))))) (CQ M T len pl ord c u ay (tmR (pTm ord T k p u) fl)) := by
  have h7 : mI M 11 8 = nI (T k) := h.1.2.2.2.2.2.2.1
  have hb := h.1.2.2.1 k
  have e : (nI (T k) = 261) ↔ T k = 261 := eL hb 261 (by decide)
  rw [h7]
  unfold pTm
  by_cases q : T k = 261
  · have hkl := lt_of_T hT q (by decide)
    rw [if_pos (e.mpr q), if_pos q, c_next hT h.1 hkl, Option.bind_some]
    have h1 := h.nxt hkl
    have g7 : mI (NXT M T k) 11 8 = nI (T (k + 1)) := h1.1.2.2.2.2.2.2.1
    have hb1 := h.1.2.2.1 (k + 1)
    have hC1 := h1.1.1
    unfold LayC at hC1
    refine TT_prenxt (k := k) ?_
    rw [g7]
    by_cases q1 : 1001 ≤ T (k + 1) ∧ T (k + 1) ≤ 1020
    · have hkl1 : k + 1 < len := lt_of_T hT (t := T (k + 1)) rfl (by omega)
      rw [if_pos q1, if_neg (show ¬ nI (T (k + 1)) < 1001 from fun w => by have := (lL hb1 1001 (by decide)).mp w; omega), if_pos (show nI (T (k + 1)) ≤ 1020 from (nleI (b := 1020) hb1 (by decide)).mpr (by omega))]
      simp only [hC1, grd_T, Option.bind_some]
      rw [show nI (T (k + 1)) - 1000 = nI (T (k + 1) - 1000) from nsub (b := 1000) (by omega), show (1 : Int32) = nI 1 from rfl, c_set h1 (f := 1) (by omega), Option.bind_some]
      have h2 := h1.set (f := 1) (v := nI (T (k + 1) - 1000)) (by omega)
      rw [c_next hT h2.1 hkl1, Option.bind_some]
      refine TT_preset (f0 := 1) (v := nI (T (k + 1) - 1000)) (TT_prenxt (k := k + 1) ((tail_bl (c_condition hT (h2.nxt hkl1) hp (by omega))).mono ?_))
      intro q3 hq3
      rw [show k + 1 + 1 = k + 2 from rfl] at hq3
      cases hco : pCo ord T (k + 2) p u with
      | inl j => rw [hco] at hq3; exact hq3
      | inr z =>
        rw [hco] at hq3
        refine hq3.congr (fun i hi => ?_)
        have : i = 0 ∨ i = 1 ∨ i = 2 ∨ i = 3 ∨ i = 4 ∨ i = 5 := by omega
        rcases this with w | w | w | w | w | w <;> subst w <;> rfl
    · rw [if_neg q1]
      by_cases q2 : T (k + 1) < 1001
      · rw [if_pos (show nI (T (k + 1)) < 1001 from (lL hb1 1001 (by decide)).mpr q2)]
        exact fail_bl h1
      · rw [if_neg (show ¬ nI (T (k + 1)) < 1001 from fun w => q2 ((lL hb1 1001 (by decide)).mp w)), if_neg (show ¬ nI (T (k + 1)) ≤ 1020 from fun w => by have := (nleI (b := 1020) hb1 (by decide)).mp w; omega)]
        exact fail_bl h1
  · rw [if_neg (fun w => q (e.mp w)), if_neg q]
    refine (tail_bl (c_condition hT h hp hu)).mono ?_
    intro q3 hq3
    cases hco : pCo ord T k p u with
    | inl j => rw [hco] at hq3; exact hq3
    | inr z =>
      rw [hco] at hq3
      refine hq3.congr (fun i hi => ?_)
      have : i = 0 ∨ i = 1 ∨ i = 2 ∨ i = 3 ∨ i = 4 ∨ i = 5 := by omega
      rcases this with w | w | w | w | w | w <;> subst w <;> first | rfl | exact hf1
theorem G_How (hT : ∀ j, len ≤ j → T j = 256) {k p u : Nat} (hp : p ≤ 50) (hk : k ≤ len) (hu : u ≤ k) : match pHow ord T k p u with
    | .inl j => j ≤ len
    | .inr h => k < h.1 ∧ h.1 ≤ len ∧ p ≤ h.2.1 ∧ h.2.1 ≤ 50 ∧ u + h.2.2.1.length ≤ h.1 ∧ h.2.2.2.1 < 5 ∧ ((h.2.2.2.1 = 1) ↔ ∃ t, h.2.2.2.2.1 = some t) := by
  unfold pHow
  by_cases q0 : T k < 267 ∨ 271 < T k
  · rw [if_pos q0]
    exact hk
  have hkl : k < len := lt_of_T hT (t := T k) rfl (by omega)
  rw [if_neg q0]
  by_cases q2 : T k = 268
  · rw [if_pos q2]
    have g := G_SF hT (ord := ord) (u := u) hp hkl (by omega)
    cases hs : pSF ord T (k + 1) p u with
    | inl j => rw [hs] at g; exact g
    | inr x =>
      rw [hs] at g
      obtain ⟨b1', b2, b3, b4, b5⟩ := g
      have g := G_At hT (ord := ord) (u := u + x.2.2.length) b4 b2 b5
      simp only
      cases ha : pAt ord T x.1 x.2.1 (u + x.2.2.length) with
      | inl j => rw [ha] at g; exact g
      | inr y =>
        rw [ha] at g
        obtain ⟨c1, c2, c3, c4, c5⟩ := g
        refine ⟨by show k < y.1; omega, c2, by show p ≤ y.2.1; omega, c4, ?_, by show 1 < 5; decide, ⟨fun _ => ⟨u, rfl⟩, fun _ => rfl⟩⟩
        simp only [List.length_append]
        omega
  · rw [if_neg q2]
    have g := G_At hT (ord := ord) (u := u) hp hkl (by omega)
    cases ha : pAt ord T (k + 1) p u with
    | inl j => rw [ha] at g; exact g
    | inr y =>
      rw [ha] at g
      obtain ⟨c1, c2, c3, c4, c5⟩ := g
      refine ⟨by show k < y.1; omega, c2, c3, c4, c5, by show T k - 267 < 5; omega, ⟨fun e => ?_, fun ⟨t, e⟩ => by cases e⟩⟩
      simp only at e
      omega
end
