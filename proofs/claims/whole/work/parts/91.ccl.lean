/-! the class reads CLAUSES -/
def Scl (a k : Nat) : Prop := Sps a k ∨ a = 16 ∨ (a = 15 ∧ k = 2)
abbrev PRF : Type := Nat ⊕ (Nat × Nat × List Nat × (Nat → Int32))
def CPC (M : Mem) (T : Nat → Nat) (len : Nat) (pl : Nat → Nat) (ord : Bool) (k p u : Nat) (ay : Bool) (c : Nat) (fl : Nat → Int32) : Prop := CP M T len pl ord k p u ay ∧ mI M 15 2 = nI (c + 1) ∧ c < 12 ∧ ∀ i, i < 6 → mI M 16 (c * 6 + i) = fl i
def CQ (M : Mem) (T : Nat → Nat) (len : Nat) (pl : Nat → Nat) (ord : Bool) (c u : Nat) (ay : Bool) (r : PRF) (q : Mem × Int32) : Prop := Fr Scl M q.1 ∧ (∀ i, i < u → mI q.1 17 i = mI M 17 i) ∧ (∀ j, j < c * 6 → mI q.1 16 j = mI M 16 j) ∧ match r with
  | .inl j => q.2 = 0 ∧ mI q.1 11 5 = nI (pl j)
  | .inr x => q.2 = 1 ∧ ∃ ay', CPC q.1 T len pl ord x.1 x.2.1 (u + x.2.2.1.length) ay' c x.2.2.2 ∧ (∀ i v, x.2.2.1[i]? = some v → mI q.1 17 (u + i) = nI v) ∧ (ay = true → ay' = true) ∧ (ord = false → ay' = false → ∀ v ∈ x.2.2.1, v ≠ 98)
def catF (l : List Nat) (r : PRF) : PRF := match r with
  | .inl j => .inl j
  | .inr y => .inr (y.1, y.2.1, l ++ y.2.2.1, y.2.2.2)
def addF (r : PR) (fl : Nat → Int32) : PRF := match r with
  | .inl j => .inl j
  | .inr x => .inr (x.1, x.2.1, x.2.2, fl)
section
variable {T : Nat → Nat} {len : Nat} {pl : Nat → Nat} {ord : Bool}
theorem CQ.bl {M : Mem} {c u : Nat} {ay : Bool} {r : PRF} {q : Mem × Int32} (h : CQ M T len pl ord c u ay r q) : bl q.2 := by
  obtain ⟨-, -, -, h⟩ := h
  cases r with
  | inl j => rw [h.1]; rfl
  | inr x => rw [h.1]; rfl
/-- one behind the other -/
theorem CQ.seq {M : Mem} {c u : Nat} {ay : Bool} {x : Nat × Nat × List Nat × (Nat → Int32)} {q1 : Mem × Int32} {r : PRF} {q2 : Mem × Int32} (h1 : CQ M T len pl ord c u ay (.inr x) q1) (h2 : ∀ ay1, CPC q1.1 T len pl ord x.1 x.2.1 (u + x.2.2.1.length) ay1 c x.2.2.2 → CQ q1.1 T len pl ord c (u + x.2.2.1.length) ay1 r q2) : CQ M T len pl ord c u ay (catF x.2.2.1 r) q2 := by
  obtain ⟨a1, a2, a3, a4, ay1, a5, a6, a7, a8⟩ := h1
  obtain ⟨b1', b2, b3, b4⟩ := h2 ay1 a5
  refine ⟨a1.tr b1', fun i hi => by rw [b2 i (by omega), a2 i hi], fun j hj => by rw [b3 j hj, a3 j hj], ?_⟩
  cases r with
  | inl j => exact b4
  | inr y =>
    obtain ⟨c1, ay2, c2, c3, c4, c5⟩ := b4
    refine ⟨c1, ay2, ?_, fun i v hv => ?_, fun w => c4 (a7 w), fun w1 w2 v hv => ?_⟩
    · show CPC q2.1 T len pl ord y.1 y.2.1 (u + (x.2.2.1 ++ y.2.2.1).length) ay2 c y.2.2.2
      rw [List.length_append, ← Nat.add_assoc]
      exact c2
    · simp only at hv
      by_cases w : i < x.2.2.1.length
      · rw [List.getElem?_append_left w] at hv
        rw [b2 (u + i) (by omega)]
        exact a6 i v hv
      · rw [List.getElem?_append_right (by omega)] at hv
        have := c3 (i - x.2.2.1.length) v hv
        rw [show u + x.2.2.1.length + (i - x.2.2.1.length) = u + i by omega] at this
        exact this
    · rcases List.mem_append.mp hv with hv | hv
      · have hay1 : ay1 = false := by
          cases ay1 with
          | false => rfl
          | true => rw [c4 rfl] at w2; cases w2
        exact a8 w1 hay1 v hv
      · exact c5 w1 w2 v hv
theorem CQ.then {M : Mem} {f : Option (Mem × Int32)} {c u : Nat} {ay : Bool} {x : Nat × Nat × List Nat × (Nat → Int32)} {q1 : Mem × Int32} {r : PRF} (h1 : CQ M T len pl ord c u ay (.inr x) q1) (h2 : ∀ ay1, CPC q1.1 T len pl ord x.1 x.2.1 (u + x.2.2.1.length) ay1 c x.2.2.2 → TT f (CQ q1.1 T len pl ord c (u + x.2.2.1.length) ay1 r)) : TT f (CQ M T len pl ord c u ay (catF x.2.2.1 r)) := by
  obtain ⟨a1, a2, a3, a4, ay1, a5, a6, a7, a8⟩ := h1
  refine (h2 ay1 a5).mono ?_
  rintro q2 ⟨b1', b2, b3, b4⟩
  refine ⟨a1.tr b1', fun i hi => by rw [b2 i (by omega), a2 i hi], fun j hj => by rw [b3 j hj, a3 j hj], ?_⟩
  cases r with
  | inl j => exact b4
  | inr y =>
    obtain ⟨c1, ay2, c2, c3, c4, c5⟩ := b4
    refine ⟨c1, ay2, ?_, fun i v hv => ?_, fun w => c4 (a7 w), fun w1 w2 v hv => ?_⟩
    · show CPC q2.1 T len pl ord y.1 y.2.1 (u + (x.2.2.1 ++ y.2.2.1).length) ay2 c y.2.2.2
      rw [List.length_append, ← Nat.add_assoc]
      exact c2
    · simp only at hv
      by_cases w : i < x.2.2.1.length
      · rw [List.getElem?_append_left w] at hv
        rw [b2 (u + i) (by omega)]
        exact a6 i v hv
      · rw [List.getElem?_append_right (by omega)] at hv
        have := c3 (i - x.2.2.1.length) v hv
        rw [show u + x.2.2.1.length + (i - x.2.2.1.length) = u + i by omega] at this
        exact this
    · rcases List.mem_append.mp hv with hv | hv
      · have hay1 : ay1 = false := by
          cases ay1 with
          | false => rfl
          | true => rw [c4 rfl] at w2; cases w2
        exact a8 w1 hay1 v hv
      · exact c5 w1 w2 v hv
theorem c_set {M : Mem} {k p u c f : Nat} {ay : Bool} {fl : Nat → Int32} {v : Int32} (h : CPC M T len pl ord k p u ay c fl) (hf : f < 6) : f_X9_set M 15 (nI f) v = some (wI M 16 (c * 6 + f) v) := by
  obtain ⟨h0, h2, h3, h4⟩ := h
  have h1 := h0.1
  unfold LayC at h1
  unfold f_X9_set
  simp only [h1, grd_T, Option.bind_some, bv, h2]
  rw [npred1 (by omega), Nat.add_sub_cancel, show (6 : Int32) = nI 6 from rfl, nmul, nadd, if_neg (show ¬ nI (c * 6 + f) < 0 from fun w => by have := (nltI (b := 0) (by omega) (by decide)).mp w; omega), if_neg (show ¬ nI 72 ≤ nI (c * 6 + f) from fun w => by have := (nleI (a := 72) (by decide) (by omega)).mp w; omega), grd_y ((nvp (by omega)).mpr (by omega)), nclampI (by omega)]
theorem fr_set {M : Mem} {j : Nat} {v : Int32} : Fr Scl M (wI M 16 j v) := Fr.rf.wI (Or.inr (Or.inl rfl))
theorem CP.any {M M1 : Mem} {k p u : Nat} {ay : Bool} (h : CP M T len pl ord k p u ay) {S : Nat → Nat → Prop} (hF : Fr S M M1) (hs : ∀ a k, S a k → a ≠ 11 ∧ a ≠ 13 ∧ a ≠ 14 ∧ (a = 15 → k ≠ 3 ∧ k ≠ 4)) : CP M1 T len pl ord k p u ay := by
  obtain ⟨g1, g2, g3, g4, g5, g6, g7, g8, g9, g10, g11⟩ := h
  have e : ∀ a k, (a = 11 ∨ a = 13 ∨ a = 14 ∨ (a = 15 ∧ (k = 3 ∨ k = 4))) → mI M1 a k = mI M a k := fun a k q => hF.i (fun w => by have := hs a k w; omega)
  exact ⟨g1.fr hF, g2, g3, fun j hj => by rw [e 13 j (by omega), e 14 j (by omega), e 11 5 (by omega)]; exact g4 j hj, by rw [e 11 6 (by omega)]; exact g5, by rw [e 11 7 (by omega)]; exact g6, by rw [e 11 8 (by omega)]; exact g7, by rw [e 11 9 (by omega)]; exact g8, by rw [e 15 3 (by omega)]; exact g9, by rw [e 15 4 (by omega)]; exact g10, g11⟩
theorem CPC.set {M : Mem} {k p u c f : Nat} {ay : Bool} {fl : Nat → Int32} {v : Int32} (h : CPC M T len pl ord k p u ay c fl) (hf : f < 6) : CPC (wI M 16 (c * 6 + f) v) T len pl ord k p u ay c (fun i => if i = f then v else fl i) := by
  obtain ⟨h0, h2, h3, h4⟩ := h
  refine ⟨h0.any (S := fun a _ => a = 16) (Fr.rf.wI rfl) (fun a k w => by omega), by rw [mI_wI_row (by decide)]; exact h2, h3, fun i hi => ?_⟩
  rw [mI_wI]
  show _ = if i = f then v else fl i
  by_cases q : i = f
  · rw [if_pos ⟨rfl, by omega⟩, if_pos q]
  · rw [if_neg (fun w => q (by omega)), if_neg q]
    exact h4 i hi
/-- what PSQ tells, with the clause's cells kept -/
theorem PSQ.cq {M : Mem} {k p u c : Nat} {ay : Bool} {fl : Nat → Int32} {r : PR} {q : Mem × Int32} (h0 : CPC M T len pl ord k p u ay c fl) (h : PSQ M T len pl ord u ay r q) : CQ M T len pl ord c u ay (addF r fl) q := by
  obtain ⟨a1, a2, a3⟩ := h
  have e16 : ∀ j, mI q.1 16 j = mI M 16 j := fun j => a1.i (by unfold Sps; omega)
  have e15 : mI q.1 15 2 = mI M 15 2 := a1.i (by unfold Sps; omega)
  refine ⟨a1.up (fun a k w => Or.inl w), a2, fun j _ => e16 j, ?_⟩
  cases r with
  | inl j => exact a3
  | inr x =>
    obtain ⟨c1, ay', c2, c3, c4, c5⟩ := a3
    exact ⟨c1, ay', ⟨c2, by rw [e15]; exact h0.2.1, h0.2.2.1, fun i hi => by rw [e16]; exact h0.2.2.2 i hi⟩, c3, c4, c5⟩
/-- an instruction more -/
theorem CQ.emit {M : Mem} {c u : Nat} {ay : Bool} {x : Nat × Nat × List Nat × (Nat → Int32)} {q : Mem × Int32} {v : Nat} (h : CQ M T len pl ord c u ay (.inr x) q) (hv : v ≠ 98) : CQ M T len pl ord c u ay (.inr (x.1, x.2.1, x.2.2.1 ++ [v], x.2.2.2)) (EMT q.1 (u + x.2.2.1.length) v, 1) := by
  have := CQ.seq (r := .inr (x.1, x.2.1, [v], x.2.2.2)) (q2 := (EMT q.1 (u + x.2.2.1.length) v, 1)) h (fun ay1 h1 => ?_)
  · exact this
  · have h2 := h1.1.emt (v := v)
    refine ⟨fr_emt.up (fun a k w => Or.inl w), fun i hi => by rw [emt_17, if_neg (by omega)], fun j _ => fr_emt.i (by unfold Sps; omega), rfl, ay1, ⟨h2, ?_, h1.2.2.1, fun i hi => ?_⟩, fun i w hw => ?_, fun w => w, fun _ _ w hw => ?_⟩
    · rw [fr_emt.i (by unfold Sps; omega)]
      exact h1.2.1
    · rw [fr_emt.i (by unfold Sps; omega)]
      exact h1.2.2.2 i hi
    · have hi : i < 1 := (List.getElem?_eq_some_iff.mp hw).1
      obtain rfl : i = 0 := by omega
      cases hw
      rw [emt_17, if_pos (by omega)]
    · rw [List.mem_singleton.mp hw]
      exact hv
/-- ahead of it something that leaves the code as it is -/
theorem CQ.pre {M M1 : Mem} {c u : Nat} {ay : Bool} {r : PRF} {q : Mem × Int32} (hF : Fr Scl M M1) (h17 : ∀ i, mI M1 17 i = mI M 17 i) (h16 : ∀ j, j < c * 6 → mI M1 16 j = mI M 16 j) (h : CQ M1 T len pl ord c u ay r q) : CQ M T len pl ord c u ay r q := by
  obtain ⟨a1, a2, a3, a4⟩ := h
  exact ⟨hF.tr a1, fun i hi => by rw [a2 i hi, h17], fun j hj => by rw [a3 j hj, h16 j hj], a4⟩
theorem CPC.nxt {M : Mem} {k p u c : Nat} {ay : Bool} {fl : Nat → Int32} (h : CPC M T len pl ord k p u ay c fl) (hk : k < len) : CPC (NXT M T k) T len pl ord (k + 1) p u ay c fl := by
  obtain ⟨h0, h2, h3, h4⟩ := h
  exact ⟨h0.nxt hk, by rw [fr_nxt.i (by unfold Sps; omega)]; exact h2, h3, fun i hi => by rw [fr_nxt.i (by unfold Sps; omega)]; exact h4 i hi⟩
theorem CQ.prenxt {M : Mem} {c u k : Nat} {ay : Bool} {r : PRF} {q : Mem × Int32} (h : CQ (NXT M T k) T len pl ord c u ay r q) : CQ M T len pl ord c u ay r q := h.pre (fr_nxt.up (fun a k w => Or.inl w)) (fun i => nxt_17) (fun j _ => fr_nxt.i (by unfold Sps; omega))
theorem CQ_fail {M : Mem} {k p u c : Nat} {ay : Bool} {fl : Nat → Int32} (h : CPC M T len pl ord k p u ay c fl) : ∃ q, f_X7_fail M 11 = some q ∧ bl q.2 ∧ CQ M T len pl ord c u ay (.inl k) (q.1, q.2) := by
  obtain ⟨q, f1, f2, f3⟩ := PSQ_fail h.1 (M0 := M) (u0 := u) (ay0 := ay) (Nat.le_refl u) Fr.rf (fun i _ => rfl)
  exact ⟨q, f1, f2, f3.cq h⟩
/-- a SUM for a field -/
def sfR (r : PR) (f u : Nat) (fl : Nat → Int32) : PRF := match r with
  | .inl j => .inl j
  | .inr x => .inr (x.1, x.2.1, x.2.2, fun i => if i = f then nI u else fl i)
theorem c_sumFor (hT : ∀ j, len ≤ j → T j = 256) {M : Mem} {k p u c f : Nat} {ay : Bool} {fl : Nat → Int32} (h : CPC M T len pl ord k p u ay c fl) (hp : p ≤ 50) (hu : u + 1 ≤ k) (hf : f < 6) : TT (f_X7_sumFor M 11 (nI f)) (CQ M T len pl ord c u ay (sfR (pSF ord T k p u) f u fl)) := by
  have hC := h.1.1
  have h9 : mI M 15 3 = nI u := h.1.2.2.2.2.2.2.2.2.1
  have hk : k ≤ len := h.1.2.2.2.2.2.2.2.2.2.2
  have hlen := h.1.2.1
  unfold LayC at hC
  unfold f_X7_sumFor
  simp only [hC, grd_T, Option.bind_some, h9]
  rw [c_set h hf, Option.bind_some]
  have h1 := h.set (v := nI u) hf
  have pre : ∀ {r : PRF} {q : Mem × Int32}, CQ (wI M 16 (c * 6 + f) (nI u)) T len pl ord c u ay r q → CQ M T len pl ord c u ay r q := fun hq => hq.pre fr_set (fun i => by rw [mI_wI_row (by decide)]) (fun j hj => by rw [mI_wI_ne (by omega)])
  obtain ⟨q, hq, a⟩ := PC_S0 (pl := pl) (ord := ord) hT _ k p u ay h1.1 hp (by omega)
  rw [show f_X7_sum 100 (wI M 16 (c * 6 + f) (nI u)) 11 0 = some q from hq, Option.bind_some]
  have gg := GD_SUMr hT (ord := ord) 8 k p u hp hk
  have cq := PSQ.cq h1 a
  unfold pSF sfR
  cases hs : SUMr ord T 8 k p u with
  | inl j =>
    rw [hs] at cq
    obtain ⟨-, -, -, e, -⟩ := id cq
    rw [e, if_pos rfl, TT_some, ← e]
    exact pre cq
  | inr x =>
    rw [hs] at cq gg
    obtain ⟨g1, g2, g3, g4, g5, g6⟩ := gg
    obtain ⟨-, -, -, e, ay', hc, -⟩ := id cq
    have hC := hc.1.1
    unfold LayC at hC
    rw [e, if_neg (show ¬ (1 : Int32) = 0 by decide)]
    simp only [hC, grd_T, Option.bind_some]
    have em := c_emit (op := 0) (arg := 0) hc.1 (by show u + x.2.2.length ≤ 400; omega)
    rw [show (0 : Int32) = nI 0 from rfl, em, Option.bind_some, TT_some]
    exact pre (cq.emit (v := 0) (by decide))
def coR (r : Nat ⊕ (Nat × Nat × List Nat × Option Nat)) (fl : Nat → Int32) : PRF := match r with
  | .inl j => .inl j
  | .inr y => .inr (y.1, y.2.1, y.2.2.1, fun i => if i = 2 then (match y.2.2.2 with
    | some t => nI t
    | none => fl 2) else fl i)
theorem c_condition (hT : ∀ j, len ≤ j → T j = 256) {M : Mem} {k p u c : Nat} {ay : Bool} {fl : Nat → Int32} (h : CPC M T len pl ord k p u ay c fl) (hp : p ≤ 50) (hu : u ≤ k) : TT (f_X7_condition M 11) (CQ M T len pl ord c u ay (coR (pCo ord T k p u) fl)) := by
  have hC := h.1.1
  have h7 : mI M 11 8 = nI (T k) := h.1.2.2.2.2.2.2.1
  have hk : k ≤ len := h.1.2.2.2.2.2.2.2.2.2.2
  have hlen := h.1.2.1
  have hb := h.1.2.2.1 k
  have e262 : (nI (T k) = 262) ↔ T k = 262 := eL hb 262 (by decide)
  unfold LayC at hC
  unfold f_X7_condition
  simp only [hC, grd_T, h7]
  unfold pCo coR
  by_cases q0 : T k = 262
  · have hkl := lt_of_T hT q0 (by decide)
    rw [if_pos (e262.mpr q0), if_pos q0, c_next hT h.1 hkl, Option.bind_some]
    have h1 := h.nxt hkl
    have h9 : mI (NXT M T k) 15 3 = nI u := h1.1.2.2.2.2.2.2.2.2.1
    have hC1 := h1.1.1
    unfold LayC at hC1
    simp only [hC1, grd_T, Option.bind_some, h9]
    rw [show (2 : Int32) = nI 2 from rfl, c_set h1 (f := 2) (by omega), Option.bind_some]
    have h2 := h1.set (f := 2) (v := nI u) (by omega)
    have pre : ∀ {r : PRF} {q : Mem × Int32}, CQ (wI (NXT M T k) 16 (c * 6 + 2) (nI u)) T len pl ord c u ay r q → CQ M T len pl ord c u ay r q := fun hq => CQ.prenxt (hq.pre fr_set (fun i => by rw [mI_wI_row (by decide)]) (fun j hj => by rw [mI_wI_ne (by omega)]))
    obtain ⟨q, hq, a⟩ := PC_T (pl := pl) (ord := ord) hT _ (k + 1) p u ay h2.1 hp (by omega)
    rw [show (0 : Int32) = nI 0 from rfl, hq, Option.bind_some]
    have gg := GD_TESTr hT (ord := ord) 8 (k + 1) p u hp hkl
    have cq := PSQ.cq h2 a
    cases hs : TESTr ord T 8 (k + 1) p u with
    | inl j =>
      rw [hs] at cq
      obtain ⟨-, -, -, e, -⟩ := id cq
      rw [if_pos (show q.2 = nI 0 from e), TT_some]
      have : (q.1, nI 0) = q := by rw [← show q.2 = nI 0 from e]
      rw [this]
      exact pre cq
    | inr x =>
      rw [hs] at cq gg
      obtain ⟨g1, g2, g3, g4, g5, g6⟩ := gg
      obtain ⟨-, -, -, e, ay', hc, -⟩ := id cq
      have hC := hc.1.1
      unfold LayC at hC
      rw [if_neg (show ¬ q.2 = nI 0 from by rw [e]; decide)]
      simp only [hC, grd_T, Option.bind_some]
      have em := c_emit (op := 0) (arg := 0) hc.1 (by show u + x.2.2.length ≤ 400; omega)
      rw [em, Option.bind_some, TT_some]
      have := pre (cq.emit (v := 0) (by decide))
      simp only at this ⊢
      have ef : (fun i => if i = 2 then nI u else fl i) = (fun i => if i = 2 then (match (some u) with
          | some t => nI t
          | none => fl 2) else fl i) := rfl
      rw [← ef]
      exact this
  · rw [if_neg (fun w => q0 (e262.mp w)), if_neg q0, TT_some]
    refine ⟨Fr.rf, fun i _ => rfl, fun j _ => rfl, rfl, ay, ?_, fun i v hv => (by cases hv), fun w => w, fun _ _ v hv => (by cases hv)⟩
    refine ⟨by simpa using h.1, h.2.1, h.2.2.1, fun i hi => ?_⟩
    simp only
    by_cases w : i = 2
    · rw [if_pos w, h.2.2.2 i hi, w]
    · rw [if_neg w, h.2.2.2 i hi]
end
