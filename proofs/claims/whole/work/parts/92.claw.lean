/-! the class reads whole CLAUSES -/
def clF (cl : CL) (i : Nat) : Int32 := if i = 0 then nI cl.1 else if i = 1 then nI cl.2.1 else if i = 2 then oI cl.2.2.1 else if i = 3 then oI cl.2.2.2.1 else if i = 4 then oI cl.2.2.2.2.1 else oI cl.2.2.2.2.2
def clR (r : PRC) : PRF := match r with
  | .inl j => .inl j
  | .inr x => .inr (x.1, x.2.1, x.2.2.1, clF x.2.2.2)
def opF (kind : Int32) (i : Nat) : Int32 := if i = 0 then kind else if i = 1 then 1 else -1
section
variable {T : Nat → Nat} {len : Nat} {pl : Nat → Nat} {ord : Bool}
theorem CQ.congr {M : Mem} {c u k p : Nat} {ay : Bool} {seg : List Nat} {fl fl2 : Nat → Int32} {q : Mem × Int32} (h : CQ M T len pl ord c u ay (.inr (k, p, seg, fl)) q) (he : ∀ i, i < 6 → fl i = fl2 i) : CQ M T len pl ord c u ay (.inr (k, p, seg, fl2)) q := by
  obtain ⟨a1, a2, a3, a4, ay', ⟨b1', b2, b3, b4⟩, a6⟩ := h
  exact ⟨a1, a2, a3, a4, ay', ⟨b1', b2, b3, fun i hi => by rw [b4 i hi]; exact he i hi⟩, a6⟩
theorem c_open {M : Mem} {k p u c : Nat} {ay : Bool} {kind : Int32} (h : CP M T len pl ord k p u ay) (h2 : mI M 15 2 = nI c) (hc : c < 12) : ∃ M', f_X9_open M 15 kind = some M' ∧ Fr Scl M M' ∧ (∀ i, mI M' 17 i = mI M 17 i) ∧ (∀ j, j < c * 6 → mI M' 16 j = mI M 16 j) ∧ CPC M' T len pl ord k p u ay c (opF kind) := by
  have hC := h.1
  unfold LayC at hC
  unfold f_X9_open
  simp only [hC, grd_T, bv, h2, nsucc]
  have hF0 : Fr Scl M (wI M 15 2 (nI (c + 1))) := Fr.rf.wI (Or.inr (Or.inr (by omega)))
  have c0 : CPC (wI M 15 2 (nI (c + 1))) T len pl ord k p u ay c (fun i => mI M 16 (c * 6 + i)) := ⟨h.any (S := fun a k => a = 15 ∧ k = 2) (Fr.rf.wI ⟨rfl, rfl⟩) (fun a k w => by omega), mI_wIs, hc, fun i hi => by rw [mI_wI_row (by decide)]⟩
  have k17 : ∀ i, mI (wI M 15 2 (nI (c + 1))) 17 i = mI M 17 i := fun i => by rw [mI_wI_row (by decide)]
  have k16 : ∀ i, mI (wI M 15 2 (nI (c + 1))) 16 i = mI M 16 i := fun i => by rw [mI_wI_row (by decide)]
  generalize wI M 15 2 (nI (c + 1)) = M0 at *
  rw [show (0 : Int32) = nI 0 from rfl, c_set c0 (f := 0) (by omega), Option.bind_some]
  have c1 := c0.set (f := 0) (v := kind) (by omega)
  rw [show (1 : Int32) = nI 1 from rfl, c_set c1 (f := 1) (by omega), Option.bind_some]
  have c2 := c1.set (f := 1) (v := nI 1) (by omega)
  have hF2 : Fr Scl M (wI (wI M0 16 (c * 6 + 0) kind) 16 (c * 6 + 1) (nI 1)) := (hF0.tr fr_set).tr fr_set
  have q17 : ∀ i, mI (wI (wI M0 16 (c * 6 + 0) kind) 16 (c * 6 + 1) (nI 1)) 17 i = mI M 17 i := fun i => by rw [mI_wI_row (by decide), mI_wI_row (by decide), k17]
  have q16 : ∀ j, j < c * 6 → mI (wI (wI M0 16 (c * 6 + 0) kind) 16 (c * 6 + 1) (nI 1)) 16 j = mI M 16 j := fun j hj => by rw [mI_wI_ne (by omega), mI_wI_ne (by omega), k16]
  generalize wI (wI M0 16 (c * 6 + 0) kind) 16 (c * 6 + 1) (nI 1) = M1 at *
  have key : TT (loopO (σ := Mem × Int32) (ρ := Mem) (fun s16 => if 6 ≤ s16.2 then (some (.inr s16.1)) else (Option.bind (f_X9_set s16.1 15 s16.2 (-nI 1)) (fun q25 => some (.inl (q25, s16.2 + nI 1))))) (M1, 2)) (fun M' => Fr Scl M M' ∧ (∀ i, mI M' 17 i = mI M 17 i) ∧ (∀ j, j < c * 6 → mI M' 16 j = mI M 16 j) ∧ CPC M' T len pl ord k p u ay c (opF kind)) := by
    refine TT_for 6 (fun f s => 2 ≤ f ∧ s.2 = nI f ∧ Fr Scl M s.1 ∧ (∀ i, mI s.1 17 i = mI M 17 i) ∧ (∀ j, j < c * 6 → mI s.1 16 j = mI M 16 j) ∧ ∃ fl, CPC s.1 T len pl ord k p u ay c fl ∧ ∀ i, i < f → fl i = opF kind i) ?_ (show 2 ≤ 6 by omega) ⟨Nat.le_refl 2, rfl, hF2, q17, q16, _, c2, fun i hi => ?_⟩
    · rintro f ⟨M3, x⟩ hf ⟨hf2, rfl, b1', b2, b3, fl, b4, b5⟩
      simp only at b1' b2 b3 b4 ⊢
      rw [show (6 : Int32) = nI 6 from rfl, TT_if, nleI (by omega) (by omega)]
      refine ⟨fun w => ?_, fun w => ?_⟩
      · obtain rfl : f = 6 := by omega
        rw [TT_some]
        exact ⟨b1', b2, b3, b4.1, b4.2.1, b4.2.2.1, fun i hi => by rw [b4.2.2.2 i hi]; exact b5 i hi⟩
      · rw [c_set b4 (by omega), Option.bind_some, TT_some]
        refine ⟨by omega, by omega, nsucc f, b1'.tr fr_set, fun i => by rw [mI_wI_row (by decide)]; exact b2 i, fun j hj => by rw [mI_wI_ne (by omega)]; exact b3 j hj, _, b4.set (by omega), fun i hi => ?_⟩
        by_cases q : i = f
        · rw [if_pos q, opF, if_neg (show ¬ i = 0 by omega), if_neg (show ¬ i = 1 by omega)]
          rfl
        · rw [if_neg q]
          exact b5 i (by omega)
    · simp only [opF]
      have : i = 0 ∨ i = 1 := by omega
      rcases this with e | e
      · subst e; rfl
      · subst e; rfl
  obtain ⟨M', e, e2⟩ := key
  refine ⟨M', ?_, e2⟩
  rw [e]
  rfl
theorem CQ_open {M M' : Mem} {c u : Nat} {ay : Bool} {r : PRF} {q : Mem × Int32} (hF : Fr Scl M M') (h17 : ∀ i, mI M' 17 i = mI M 17 i) (h16 : ∀ j, j < c * 6 → mI M' 16 j = mI M 16 j) (h : CQ M' T len pl ord c u ay r q) : CQ M T len pl ord c u ay r q := h.pre hF h17 h16
/-- the last answer of a clause, told again -/
theorem tail_eq {M : Mem} {c u : Nat} {ay : Bool} {r : PRF} {f : Option (Mem × Int32)} (h : TT f (CQ M T len pl ord c u ay r)) : TT (Option.bind f (fun q24 => if q24.2 = 0 then (some (q24.1, 0)) else (some (q24.1, 1)))) (CQ M T len pl ord c u ay r) := by
  rw [TT_bind]
  refine h.mono ?_
  rintro ⟨M1, y⟩ hq
  obtain ⟨-, -, -, e⟩ := id hq
  cases r with
  | inl j =>
    have ey : y = 0 := e.1
    subst ey
    rw [if_pos rfl, TT_some]
    exact hq
  | inr x =>
    have ey : y = 1 := e.1
    subst ey
    rw [if_neg (show ¬ (1 : Int32) = 0 by decide), TT_some]
    exact hq
theorem tail_bl {M : Mem} {c u : Nat} {ay : Bool} {r : PRF} {f : Option (Mem × Int32)} (h : TT f (CQ M T len pl ord c u ay r)) : TT (Option.bind f (fun q37 => grd (bl q37.2) (some (q37.1, q37.2)))) (CQ M T len pl ord c u ay r) := by
  rw [TT_bind]
  refine h.mono ?_
  intro q hq
  rw [grd_y hq.bl, TT_some]
  exact hq
/-- a step that may fail, and what follows it -/
theorem CQ.bind {M : Mem} {c u : Nat} {ay : Bool} {r1 : PRF} {f : Option (Mem × Int32)} {g : Mem → Option (Mem × Int32)} (h : TT f (CQ M T len pl ord c u ay r1)) {r2 : PRF} (hl : ∀ j, r1 = .inl j → r2 = .inl j) (hr : ∀ x q1, r1 = .inr x → CQ M T len pl ord c u ay (.inr x) q1 → TT (g q1.1) (CQ M T len pl ord c u ay r2)) : TT (Option.bind f (fun q29 => if q29.2 = 0 then (some (q29.1, 0)) else g q29.1)) (CQ M T len pl ord c u ay r2) := by
  rw [TT_bind]
  refine h.mono ?_
  rintro ⟨M1, y⟩ hq
  obtain ⟨-, -, -, e⟩ := id hq
  cases hr1 : r1 with
  | inl j =>
    rw [hr1] at e hq
    have ey : y = 0 := e.1
    subst ey
    rw [if_pos rfl, TT_some, hl j hr1]
    exact hq
  | inr x =>
    rw [hr1] at e hq
    have ey : y = 1 := e.1
    subst ey
    rw [if_neg (show ¬ (1 : Int32) = 0 by decide)]
    exact hr x _ hr1 hq
theorem TT_preopen {M M1 : Mem} {c u k : Nat} {ay : Bool} {r : PRF} {f : Option (Mem × Int32)} (a1 : Fr Scl M M1) (a2 : ∀ i, mI M1 17 i = mI M 17 i) (a3 : ∀ j, j < c * 6 → mI M1 16 j = mI M 16 j) (h : TT f (CQ (NXT M1 T k) T len pl ord c u ay r)) : TT f (CQ M T len pl ord c u ay r) := h.mono (fun _ hq => CQ_open a1 a2 a3 hq.prenxt)
theorem c_lawClause (hT : ∀ j, len ≤ j → T j = 256) {M : Mem} {k p u c : Nat} {ay : Bool} (h : CP M T len pl ord k p u ay) (h2 : mI M 15 2 = nI c) (hc : c < 12) (hp : p ≤ 50) (hu : u ≤ k) : TT (f_X7_lawClause M 11) (CQ M T len pl ord c u ay (clR (pLaw ord T k p u))) := by
  have hC := h.1
  have h7 : mI M 11 8 = nI (T k) := h.2.2.2.2.2.2.1
  have hb := h.2.2.1 k
  have e258 : (nI (T k) = 258) ↔ T k = 258 := eL hb 258 (by decide)
  have e259 : (nI (T k) = 259) ↔ T k = 259 := eL hb 259 (by decide)
  unfold LayC at hC
  unfold f_X7_lawClause
  simp only [hC, grd_T, bv, h7, Option.bind_some]
  unfold pLaw
  by_cases q1 : T k = 258
  · have hkl := lt_of_T hT q1 (by decide)
    rw [if_pos (e258.mpr q1), if_pos q1, q1, show nI 258 - 258 = nI 0 from by decide]
    obtain ⟨M1, e1, a1, a2, a3, a4⟩ := c_open (kind := nI 0) h h2 hc
    rw [e1, Option.bind_some, c_next hT a4.1 hkl, Option.bind_some, if_pos (show nI 0 = 0 from rfl), show (3 : Int32) = nI 3 from rfl]
    have gg := G_SF hT (ord := ord) (u := u) hp hkl (by omega)
    refine TT_preopen a1 a2 a3 (CQ.bind (g := fun m => Option.bind (f_X7_condition m 11) (fun q24 => if q24.2 = 0 then (some (q24.1, 0)) else (some (q24.1, 1)))) (c_sumFor (f := 3) hT (a4.nxt hkl) hp (by omega) (by omega)) (fun j hj => ?_) (fun x q1 hx hq1 => ?_))
    · cases hs : pSF ord T (k + 1) p u with
      | inl j2 => rw [hs] at hj; cases hj; rfl
      | inr x => rw [hs] at hj; cases hj
    · cases hs : pSF ord T (k + 1) p u with
      | inl j2 => rw [hs] at hx; cases hx
      | inr y =>
        rw [hs] at hx gg
        cases hx
        obtain ⟨g1, g2, g3, g4, g5⟩ := gg
        have key := tail_eq (CQ.then hq1 (fun ay2 h3 => c_condition hT h3 g4 g5))
        refine key.mono ?_
        intro q2 hq2
        simp only
        cases hco : pCo ord T y.1 y.2.1 (u + y.2.2.length) with
        | inl j => rw [hco] at hq2; exact hq2
        | inr z =>
          rw [hco] at hq2
          refine hq2.congr (fun i hi => ?_)
          have : i = 0 ∨ i = 1 ∨ i = 2 ∨ i = 3 ∨ i = 4 ∨ i = 5 := by omega
          rcases this with w | w | w | w | w | w <;> subst w
          · rfl
          · rfl
          · show (match z.2.2.2 with
              | some t => nI t
              | none => _) = oI z.2.2.2
            cases z.2.2.2 <;> rfl
          · rfl
          · rfl
          · rfl
  rw [if_neg (fun w => q1 (e258.mp w)), if_neg q1]
  by_cases q2 : T k = 259
  · have hkl := lt_of_T hT q2 (by decide)
    rw [if_pos (e259.mpr q2), if_pos q2, q2, show nI 259 - 258 = nI 1 from by decide]
    obtain ⟨M1, e1, a1, a2, a3, a4⟩ := c_open (kind := nI 1) h h2 hc
    rw [e1, Option.bind_some, c_next hT a4.1 hkl, Option.bind_some, if_neg (show ¬ nI 1 = 0 by decide)]
    refine TT_preopen (k := k) a1 a2 a3 ((tail_eq (c_condition hT (a4.nxt hkl) hp (by omega))).mono ?_)
    intro q2 hq2
    cases hco : pCo ord T (k + 1) p u with
    | inl j => rw [hco] at hq2; exact hq2
    | inr z =>
      rw [hco] at hq2
      refine hq2.congr (fun i hi => ?_)
      have : i = 0 ∨ i = 1 ∨ i = 2 ∨ i = 3 ∨ i = 4 ∨ i = 5 := by omega
      rcases this with w | w | w | w | w | w <;> subst w
      · rfl
      · rfl
      · show (match z.2.2.2 with
          | some t => nI t
          | none => _) = oI z.2.2.2
        cases z.2.2.2 <;> rfl
      · rfl
      · rfl
      · rfl
  rw [if_neg (fun w => q2 (e259.mp w)), if_neg q2]
  obtain ⟨qf, f1, f2, f3⟩ := PSQ_fail h (M0 := M) (u0 := u) (ay0 := ay) (Nat.le_refl u) Fr.rf (fun i _ => rfl)
  rw [f1, Option.bind_some, grd_y f2, TT_some]
  obtain ⟨b1', b2, b3⟩ := f3
  exact ⟨b1'.up (fun a k w => Or.inl w), b2, fun j _ => b1'.i (by unfold Sps; omega), b3⟩
end
