/-! the class reads whole TEXTS -/
noncomputable def rdB : Mem × Int32 → Option ((Mem × Int32) ⊕ (Mem ⊕ (Mem ⊕ (Mem ⊕ Mem)))) := (fun s38 => if 12 ≤ s38.2 then (some (.inr (.inl s38.1))) else (bv (fun (s60 : Mem) => if (mI s60 11 8) = 256 then (some (.inr (.inr (.inr (.inl s60))))) else (if (mI s60 11 8) = 59 then (Option.bind (f_X7_next s60 11) (fun q64 => bv (s38.2 + 1 : Int32) (fun x69 => some (.inl (q64, x69))))) else (some (.inr (.inr (.inr (.inr s60))))))) (fun j59 => if (mI s38.1 11 6) = 0 then (Option.bind (f_X7_lawClause s38.1 11) (fun q70 => if q70.2 = 0 then (some (.inr (.inr (.inl q70.1)))) else (j59 q70.1))) else (Option.bind (f_X7_orderClause s38.1 11) (fun q75 => if q75.2 = 0 then (some (.inr (.inr (.inl q75.1)))) else (j59 q75.1))))))
/-- where a text's clauses and code lie -/
def TXT (M : Mem) (c u : Nat) (cls : List CL) (code : List Nat) : Prop := (∀ i cl, cls[i]? = some cl → ∀ f, f < 6 → mI M 16 ((c + i) * 6 + f) = clF cl f) ∧ ∀ i v, code[i]? = some v → mI M 17 (u + i) = nI v
def RDQ (M : Mem) (pl : Nat → Nat) (ord : Bool) (c u : Nat) (ay : Bool) (r : Nat ⊕ (List CL × List Nat)) (q : Mem × Int32) : Prop := Fr Scl M q.1 ∧ (∀ i, i < u → mI q.1 17 i = mI M 17 i) ∧ (∀ j, j < c * 6 → mI q.1 16 j = mI M 16 j) ∧ match r with
  | .inl j => q.2 = 0 ∧ mI q.1 11 5 = nI (pl j)
  | .inr x => q.2 = 1 ∧ mI q.1 11 5 = -1 ∧ mI q.1 15 2 = nI (c + x.1.length) ∧ mI q.1 15 3 = nI (u + x.2.length) ∧ TXT q.1 c u x.1 x.2 ∧ u + x.2.length ≤ 400 ∧ c + x.1.length ≤ 12 ∧ ∃ ay', mI q.1 15 4 = b1 ay' ∧ (ay = true → ay' = true) ∧ (ord = false → ay' = false → ∀ v ∈ x.2, v ≠ 98)
section
variable {T : Nat → Nat} {len : Nat} {pl : Nat → Nat} {ord : Bool}
theorem c_readL (hT : ∀ j, len ≤ j → T j = 256) : ∀ n c k p u ay M1, c + n = 12 → CP M1 T len pl ord k p u ay → mI M1 15 2 = nI c → p ≤ 50 → u ≤ k → TT (loopO rdB (M1, nI c)) (fun z => TT (Sum.elim (fun (x51 : Mem) => Option.bind (f_X7_fail x51 11) (fun q81 => grd (bl q81.2) (some (q81.1, q81.2)))) (Sum.elim (fun (x53 : Mem) => some (x53, 0)) (Sum.elim (fun (x55 : Mem) => some (x55, 1)) (fun (x57 : Mem) => Option.bind (f_X7_fail x57 11) (fun q88 => grd (bl q88.2) (some (q88.1, q88.2)))))) z) (RDQ M1 pl ord c u ay (pRd ord T n k p u))) := by
  intro n
  induction n with
  | zero =>
    intro c k p u ay M1 hn h h2 hp hu
    have e : rdB (M1, nI c) = some (.inr (.inl M1)) := by
      unfold rdB
      simp only
      rw [if_pos (show (12 : Int32) ≤ nI c by rw [show c = 12 by omega]; decide)]
    rw [loopO_eq, e]
    refine ⟨_, rfl, ?_⟩
    obtain ⟨qf, f1, f2, b1', b2, b3⟩ := PSQ_fail h (M0 := M1) (u0 := u) (ay0 := ay) (Nat.le_refl u) Fr.rf (fun i _ => rfl)
    show TT (Option.bind (f_X7_fail M1 11) _) _
    rw [f1, Option.bind_some, grd_y f2, TT_some]
    exact ⟨b1'.up (fun a k w => Or.inl w), b2, fun j _ => b1'.i (by unfold Sps; omega), b3⟩
  | succ n ih =>
    intro c k p u ay M1 hn h h2 hp hu
    have h5 : mI M1 11 6 = b1 ord := h.2.2.2.2.1
    have hk : k ≤ len := h.2.2.2.2.2.2.2.2.2.2
    have gc := G_Cl hT (ord := ord) (u := u) hp hk hu
    -- the clause
    have hcl : TT (if b1 ord = 0 then f_X7_lawClause M1 11 else f_X7_orderClause M1 11) (CQ M1 T len pl ord c u ay (clR (pCl ord T k p u))) := by
      unfold pCl
      cases ord with
      | false => exact c_lawClause hT h h2 (by omega) hp hu
      | true => exact c_orderClause hT h h2 (by omega) hp hu
    obtain ⟨q, hq, cq⟩ := hcl
    have step : rdB (M1, nI c) = if q.2 = 0 then some (.inr (.inr (.inl q.1))) else (if (mI q.1 11 8) = 256 then (some (.inr (.inr (.inr (.inl q.1))))) else (if (mI q.1 11 8) = 59 then (Option.bind (f_X7_next q.1 11) (fun q64 => some (.inl (q64, nI (c + 1))))) else (some (.inr (.inr (.inr (.inr q.1))))))) := by
      unfold rdB
      simp only [bv, h5, nsucc]
      rw [if_neg (show ¬ (12 : Int32) ≤ nI c from fun w => by have := (nleI (a := 12) (by decide) (by omega)).mp w; omega)]
      cases ord with
      | false =>
        rw [if_pos (show b1 false = 0 from rfl)] at hq ⊢
        rw [hq, Option.bind_some]
      | true =>
        rw [if_neg (show ¬ b1 true = 0 by decide)] at hq ⊢
        rw [hq, Option.bind_some]
    rw [loopO_eq, step, pRd]
    cases hc : pCl ord T k p u with
    | inl j =>
      rw [hc] at cq
      obtain ⟨a1, a2, a3, a4, a5⟩ := cq
      rw [a4, if_pos rfl]
      exact ⟨_, rfl, _, rfl, a1, a2, a3, rfl, a5⟩
    | inr x =>
      rw [hc] at cq gc
      obtain ⟨g1, g2, g3, g4, g5⟩ := gc
      obtain ⟨a1, a2, a3, a4, ay1, ⟨b1', b2, b3, b4⟩, a6, a7, a8⟩ := cq
      have t7 : mI q.1 11 8 = nI (T x.1) := b1'.2.2.2.2.2.2.1
      have hb := h.2.2.1 x.1
      have e256 : (nI (T x.1) = 256) ↔ T x.1 = 256 := eL hb 256 (by decide)
      have e59 : (nI (T x.1) = 59) ↔ T x.1 = 59 := eL hb 59 (by decide)
      rw [a4, if_neg (show ¬ (1 : Int32) = 0 by decide), t7]
      simp only
      have hlen := h.2.1
      have m5 : mI q.1 11 5 = -1 := (b1'.2.2.2.1 x.1 g2).2.2
      have cell : ∀ f, f < 6 → mI q.1 16 (c * 6 + f) = clF x.2.2.2 f := b4
      by_cases q1 : T x.1 = 256
      · rw [if_pos (e256.mpr q1), if_pos q1]
        refine ⟨_, rfl, _, rfl, a1, a2, a3, rfl, m5, b2, b1'.2.2.2.2.2.2.2.2.1, ⟨fun i cl hi f hf => ?_, a6⟩, by show u + x.2.2.1.length ≤ 400; omega, by show c + 1 ≤ 12; omega, ay1, b1'.2.2.2.2.2.2.2.2.2.1, a7, a8⟩
        have hi1 : i < 1 := (List.getElem?_eq_some_iff.mp hi).1
        obtain rfl : i = 0 := by omega
        cases hi
        exact cell f hf
      rw [if_neg (fun w => q1 (e256.mp w)), if_neg q1]
      by_cases q2 : T x.1 = 59
      · have hxl := lt_of_T hT q2 (by decide)
        rw [if_pos (e59.mpr q2), if_pos q2, c_next hT b1' hxl, Option.bind_some]
        have h15 : mI (NXT q.1 T x.1) 15 2 = nI (c + 1) := by rw [fr_nxt.i (by unfold Sps; omega)]; exact b2
        have key := ih (c + 1) (x.1 + 1) x.2.1 (u + x.2.2.1.length) ay1 (NXT q.1 T x.1) (by omega) (b1'.nxt hxl) h15 g4 (by omega)
        refine key.mono ?_
        intro z hz
        refine hz.mono ?_
        rintro q3 ⟨d1, d2, d3, d4⟩
        have n16 : ∀ j, mI (NXT q.1 T x.1) 16 j = mI q.1 16 j := fun j => fr_nxt.i (by unfold Sps; omega)
        refine ⟨(a1.tr (fr_nxt.up (fun a k w => Or.inl w))).tr d1, fun i hi => by rw [d2 i (by omega), nxt_17, a2 i hi], fun j hj => by rw [d3 j (by omega), n16, a3 j hj], ?_⟩
        cases hr : pRd ord T n (x.1 + 1) x.2.1 (u + x.2.2.1.length) with
        | inl j => rw [hr] at d4; exact d4
        | inr w =>
          rw [hr] at d4
          obtain ⟨f1, f2, f3, f4, ⟨f5, f6⟩, f7, f8, ay2, f9, f10, f11⟩ := d4
          refine ⟨f1, f2, by rw [f3, List.length_cons]; congr 1; omega, by rw [f4, List.length_append]; congr 1; omega, ⟨fun i cl hi f hf => ?_, fun i v hi => ?_⟩, by simp only [List.length_append]; omega, by simp only [List.length_cons]; omega, ay2, f9, fun e => f10 (a7 e), fun e1 e2 v hv => ?_⟩
          · cases i with
            | zero =>
              cases hi
              rw [Nat.add_zero, d3 (c * 6 + f) (by omega), n16]
              exact cell f hf
            | succ i =>
              have := f5 i cl hi f hf
              rw [show c + 1 + i = c + (i + 1) by omega] at this
              exact this
          · by_cases w1 : i < x.2.2.1.length
            · rw [List.getElem?_append_left w1] at hi
              rw [d2 (u + i) (by omega), nxt_17]
              exact a6 i v hi
            · rw [List.getElem?_append_right (by omega)] at hi
              have := f6 (i - x.2.2.1.length) v hi
              rw [show u + x.2.2.1.length + (i - x.2.2.1.length) = u + i by omega] at this
              exact this
          · rcases List.mem_append.mp hv with hv | hv
            · have hay1 : ay1 = false := by
                cases ay1 with
                | false => rfl
                | true => rw [f10 rfl] at e2; cases e2
              exact a8 e1 hay1 v hv
            · exact f11 e1 e2 v hv
      · rw [if_neg (fun w => q2 (e59.mp w)), if_neg q2]
        refine ⟨_, rfl, ?_⟩
        obtain ⟨qf, f1, f2, k1, k2, k3⟩ := PSQ_fail b1' (M0 := q.1) (u0 := u) (ay0 := ay) (by omega) Fr.rf (fun i _ => rfl)
        show TT (Option.bind (f_X7_fail q.1 11) _) _
        rw [f1, Option.bind_some, grd_y f2, TT_some]
        exact ⟨a1.tr (k1.up (fun a k w => Or.inl w)), fun i hi => by rw [k2 i hi, a2 i hi], fun j hj => by rw [k1.i (by unfold Sps; omega)]; exact a3 j hj, k3⟩
end
