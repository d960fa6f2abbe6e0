/-! the class reads rows of PARTS, of TERMS -/
noncomputable def sqB (g : Mem → Nat → Int32 → Option (Mem × Int32)) (lo hi p1 : Int32) : Mem × Int32 × Int32 → Option ((Mem × Int32 × Int32) ⊕ (Mem ⊕ Mem)) := (fun s10 => if 400 ≤ s10.2.2 then (some (.inr (.inl s10.1))) else (if s10.2.1 = (-1) then (some (.inr (.inl s10.1))) else (Option.bind (f_X7_next s10.1 11) (fun q23 => Option.bind (g q23 11 p1) (fun q28 => if q28.2 = 0 then (some (.inr (.inr q28.1))) else (Option.bind (mR q28.1 11 3) (fun r33 => grd (okO q28.1 9 r33) (Option.bind (f_X9_emit q28.1 r33 s10.2.1 0) (fun q35 => Option.bind (f_X7_opOf q35.1 11 lo hi) (fun q40 => bv (s10.2.2 + 1 : Int32) (fun x43 => some (.inl (q35.1, q40, x43)))))))))))))
section
variable {T : Nat → Nat} {len : Nat} {pl : Nat → Nat} {ord : Bool}
theorem PC_loop (hT : ∀ j, len ≤ j → T j = 256) {g : Mem → Nat → Int32 → Option (Mem × Int32)} {dep : Nat} {lo hi : Int32} {op : Nat → Option Nat} (ho : ∀ t, (if oI (opA t) < lo then (-1 : Int32) else if hi < oI (opA t) then -1 else oI (opA t)) = oI (op t)) (hne : ∀ t o, op t = some o → t ≠ 256 ∧ 3 ≤ o ∧ o ≤ 10) {sub : PF3} (hg : GD len sub) (hs : PC g dep T len pl ord sub) {M : Mem} {u k0 p0 : Nat} {ay : Bool} (hu : u ≤ k0) : ∀ n k p acc M1 ay1, n ≤ 400 → GDr len k0 p0 (.inr (k, p, acc)) → Fr Sps M M1 → (∀ i, i < u → mI M1 17 i = mI M 17 i) → CP M1 T len pl ord k p (u + acc.length) ay1 → (∀ i v, acc[i]? = some v → mI M1 17 (u + i) = nI v) → (ay = true → ay1 = true) → (ord = false → ay1 = false → ∀ v ∈ acc, v ≠ 98) → TT (loopO (sqB g lo hi (nI dep)) (M1, oI (op (T k)), nI (400 - n))) (fun z => TT (Sum.elim (fun (x19 : Mem) => (some (x19, 1) : Option (Mem × Int32))) (fun (x21 : Mem) => some (x21, 0)) z) (PSQ M T len pl ord u ay (lpS T sub op u n k p acc))) := by
  intro n
  induction n with
  | zero =>
    intro k p acc M1 ay1 hn hgd hF h17 hc hacc ha1 ha2
    rw [loopO_eq, sqB]
    simp only
    rw [if_pos (show (400 : Int32) ≤ nI (400 - 0) by decide)]
    exact ⟨_, rfl, _, rfl, hF, h17, rfl, ay1, hc, hacc, ha1, ha2⟩
  | succ n ih =>
    intro k p acc M1 ay1 hn hgd hF h17 hc hacc ha1 ha2
    obtain ⟨e1, e2, e3, e4, e5, e6⟩ := hgd
    simp only at e1 e2 e3 e4 e5 e6
    have step : sqB g lo hi (nI dep) (M1, oI (op (T k)), nI (400 - (n + 1))) = (if oI (op (T k)) = -1 then (some (.inr (.inl M1))) else (Option.bind (f_X7_next M1 11) (fun q23 => Option.bind (g q23 11 (nI dep)) (fun q28 => if q28.2 = 0 then (some (.inr (.inr q28.1))) else (Option.bind (mR q28.1 11 3) (fun r33 => grd (okO q28.1 9 r33) (Option.bind (f_X9_emit q28.1 r33 (oI (op (T k))) 0) (fun q35 => Option.bind (f_X7_opOf q35.1 11 lo hi) (fun q40 => some (.inl (q35.1, q40, nI (400 - n)))))))))))) := by
      unfold sqB
      simp only [bv]
      rw [if_neg (show ¬ (400 : Int32) ≤ nI (400 - (n + 1)) from fun w => by have := (nleI (a := 400) (by decide) (by omega)).mp w; omega), nsucc, show 400 - (n + 1) + 1 = 400 - n by omega]
    rw [loopO_eq, step, lpS]
    cases hop : op (T k) with
    | none =>
      rw [if_pos (show oI none = -1 from rfl)]
      exact ⟨_, rfl, _, rfl, hF, h17, rfl, ay1, hc, hacc, ha1, ha2⟩
    | some o =>
      obtain ⟨o1, o2, o3⟩ := hne _ _ hop
      have hkl : k < len := lt_of_T hT (t := T k) rfl o1
      rw [if_neg (show ¬ oI (some o) = -1 from nne_m1 (by omega)), c_next hT hc hkl, Option.bind_some]
      have hc1 := hc.nxt hkl
      obtain ⟨q, hq, a1, a2, a3⟩ := hs _ (k + 1) p (u + acc.length) ay1 hc1 e4 (by omega)
      rw [hq, Option.bind_some]
      have gg := hg (k + 1) p (u + acc.length) e4 hkl
      simp only
      cases hsub : sub (k + 1) p (u + acc.length) with
      | inl j =>
        rw [hsub] at a3
        rw [a3.1, if_pos rfl]
        exact ⟨_, rfl, _, rfl, (hF.tr fr_nxt).tr a1, fun i hi => by rw [a2 i (by omega), nxt_17, h17 i hi], rfl, a3.2⟩
      | inr x =>
        rw [hsub] at a3 gg
        obtain ⟨g1, g2, g3, g4, g5, g6⟩ := gg
        obtain ⟨c1, ay2, c2, c3, c4, c5⟩ := a3
        have hC := c2.1
        unfold LayC at hC
        rw [c1, if_neg (show ¬ (1 : Int32) = 0 by decide)]
        simp only [hC, grd_T, Option.bind_some]
        rw [show oI (some o) = nI o from rfl, show (0 : Int32) = nI 0 from rfl, c_emit c2 (by have := c2.2.1; omega), Option.bind_some]
        simp only
        have hc3 : CP (EMT q.1 (u + acc.length + x.2.2.length) (16 * 0 + o)) T len pl ord x.1 x.2.1 (u + acc.length + x.2.2.length + 1) ay2 := c2.emt
        rw [c_opOf hc3, ho, Option.bind_some]
        have hl : (acc ++ x.2.2 ++ [o]).length = acc.length + x.2.2.length + 1 := by simp; omega
        refine ih x.1 x.2.1 (acc ++ x.2.2 ++ [o]) (EMT q.1 (u + acc.length + x.2.2.length) (16 * 0 + o)) ay2 (by omega) ?_ (((hF.tr fr_nxt).tr a1).tr fr_emt) ?_ (by rw [hl, ← Nat.add_assoc, ← Nat.add_assoc]; exact hc3) ?_ (fun w => c4 (ha1 w)) ?_
        · refine ⟨by show k0 < x.1; omega, g2, by show p0 < x.2.1; omega, g4, by rw [hl]; omega, by rw [hl]; show _ ≤ x.1; omega⟩
        · intro i hi
          rw [emt_17, if_neg (by omega), a2 i (by omega), nxt_17, h17 i hi]
        · intro i v hv
          rw [emt_17]
          by_cases w1 : i < acc.length
          · rw [if_neg (by omega), a2 (u + i) (by omega), nxt_17]
            rw [List.append_assoc, List.getElem?_append_left w1] at hv
            exact hacc i v hv
          · by_cases w2 : i < acc.length + x.2.2.length
            · rw [if_neg (by omega)]
              rw [List.append_assoc, List.getElem?_append_right (by omega), List.getElem?_append_left (by omega)] at hv
              have := c3 (i - acc.length) v hv
              rw [show u + acc.length + (i - acc.length) = u + i by omega] at this
              exact this
            · have hi : i < acc.length + x.2.2.length + 1 := by
                have := (List.getElem?_eq_some_iff.mp hv).1
                rw [hl] at this
                exact this
              obtain rfl : i = acc.length + x.2.2.length := by omega
              rw [if_pos (by omega)]
              rw [List.getElem?_append_right (by simp), List.length_append, Nat.sub_self] at hv
              cases hv
              rw [Nat.mul_zero, Nat.zero_add]
        · intro w1 w2 v hv
          rcases List.mem_append.mp hv with hv | hv
          · rcases List.mem_append.mp hv with hv | hv
            · have hay1 : ay1 = false := by
                cases ay1 with
                | false => rfl
                | true => rw [c4 rfl] at w2; cases w2
              exact ha2 w1 hay1 v hv
            · exact c5 w1 w2 v hv
          · rw [List.mem_singleton.mp hv]
            omega
theorem PC_seq (hT : ∀ j, len ≤ j → T j = 256) {g F : Mem → Nat → Int32 → Option (Mem × Int32)} {dep : Nat} {lo hi : Int32} {op : Nat → Option Nat} (ho : ∀ t, (if oI (opA t) < lo then (-1 : Int32) else if hi < oI (opA t) then -1 else oI (opA t)) = oI (op t)) (hne : ∀ t o, op t = some o → t ≠ 256 ∧ 3 ≤ o ∧ o ≤ 10) {sub : PF3} (hg : GD len sub) (hs : PC g dep T len pl ord sub) (hF2 : ∀ M, okO M 7 11 → F M 11 (nI dep) = Option.bind (g M 11 (nI dep)) (fun q2 => if q2.2 = 0 then (some (q2.1, 0)) else (Option.bind (f_X7_opOf q2.1 11 lo hi) (fun q7 => Option.bind (loopO (sqB g lo hi (nI dep)) (q2.1, q7, 0)) (Sum.elim (fun (x19 : Mem) => some (x19, 1)) (fun (x21 : Mem) => some (x21, 0))))))) : PC F dep T len pl ord (pSeq T sub op) := by
  intro M k p u ay h hp hu
  have hC := h.1
  unfold LayC at hC
  rw [hF2 M (by simp only [hC])]
  obtain ⟨q, hq, a1, a2, a3⟩ := hs M k p u ay h hp hu
  rw [hq, Option.bind_some]
  have hk := h.2.2.2.2.2.2.2.2.2.2
  have gg := hg k p u hp hk
  unfold pSeq
  cases hsub : sub k p u with
  | inl j =>
    rw [hsub] at a3
    rw [a3.1, if_pos rfl, TT_some]
    exact ⟨a1, a2, rfl, a3.2⟩
  | inr x =>
    rw [hsub] at a3 gg
    obtain ⟨c1, ay2, c2, c3, c4, c5⟩ := a3
    rw [c1, if_neg (show ¬ (1 : Int32) = 0 by decide), c_opOf c2, ho, Option.bind_some, TT_bind]
    exact PC_loop hT ho hne hg hs hu 400 x.1 x.2.1 x.2.2 q.1 ay2 (by omega) gg a1 a2 c2 c3 c4 c5
end
