/-! the class reads SUMS; rows of tests -/
theorem hneS : ∀ t o, opS t = some o → t ≠ 256 ∧ 3 ≤ o ∧ o ≤ 10 := fun t o h => ⟨opS_ne h, hoS t o h⟩
theorem hneT : ∀ t o, opT t = some o → t ≠ 256 ∧ 3 ≤ o ∧ o ≤ 10 := fun t o h => ⟨opT_ne h, hoT t o h⟩
/-- the two SUMS and the sign between them, as a piece of the plain test -/
noncomputable def cmpS (M : Mem) (a0 : Nat) (p1 : Int32) : Option (Mem × Int32) :=
  grd (okO M 7 a0) (Option.bind (f_X7_sum 100 M a0 p1) (fun q2 => if q2.2 = 0 then (some (q2.1, 0)) else (Option.bind (f_X7_opOf q2.1 a0 8 10) (fun q7 => if q7 = (-1) then (Option.bind (f_X7_fail q2.1 a0) (fun q27 => grd (bl q27.2) (some (q27.1, q27.2)))) else (Option.bind (f_X7_next q2.1 a0) (fun q10 => Option.bind (f_X7_sum 100 q10 a0 p1) (fun q15 => if q15.2 = 0 then (some (q15.1, 0)) else (Option.bind (mR q15.1 a0 3) (fun r20 => grd (okO q15.1 9 r20) (Option.bind (f_X9_emit q15.1 r20 q7 0) (fun q22 => some (q22.1, 1))))))))))))
section
variable {T : Nat → Nat} {len : Nat} {pl : Nat → Nat} {ord : Bool}
theorem PC_sum_of (hT : ∀ j, len ≤ j → T j = 256) {d dep : Nat} {f : PF3} (hg : GD len f) (h : PC (f_X7_part d) dep T len pl ord f) : PC (f_X7_sum (d + 2)) dep T len pl ord (pSeq T (pSeq T f opT) opS) := by
  have ht : PC (f_X7_term (d + 1)) dep T len pl ord (pSeq T f opT) := PC_seq hT opA_T hneT hg h (fun M ok => grd_y ok)
  exact PC_seq hT opA_S hneS (GD_seq hT hg (fun _ _ => opT_ne)) ht (fun M ok => grd_y ok)
theorem PC_SUMr (hT : ∀ j, len ≤ j → T j = 256) : ∀ r d, r ≤ 8 → PC (f_X7_sum (4 * r + d + 4)) (8 - r) T len pl ord (SUMr ord T r)
  | 0, d, _ => by
    rw [show 4 * 0 + d + 4 = (d + 1 + 1) + 2 by omega]
    exact PC_sum_of hT (GD_part hT GD_no) (PC_part hT (fun M k p u ay h hp hu hTk => PC_deep (G := f_X7_sum d) (c := 93) h))
  | r + 1, d, hr => by
    rw [show 4 * (r + 1) + d + 4 = (4 * r + d + 4 + 1 + 1) + 2 by omega]
    have hs := PC_SUMr hT r d (by omega)
    rw [show 8 - r = 8 - (r + 1) + 1 by omega] at hs
    exact PC_sum_of hT (GD_partq hT (by decide) (GD_SUMr hT r)) (PC_part hT (fun M k p u ay h hp hu hTk => PC_sq hT (c := 93) (by decide) (op := 91) (by decide) (by omega) (GD_SUMr hT r) hs M k p u ay h hp hu hTk))
theorem PC_S (hT : ∀ j, len ≤ j → T j = 256) {r : Nat} (hr : r ≤ 8) : PC (f_X7_sum 100) (8 - r) T len pl ord (SUMr ord T r) := by
  have := PC_SUMr (pl := pl) (ord := ord) hT r (96 - 4 * r) hr
  rw [show 4 * r + (96 - 4 * r) + 4 = 100 by omega] at this
  exact this
theorem PC_cmp (hT : ∀ j, len ≤ j → T j = 256) {r : Nat} (hr : r ≤ 8) : PC cmpS (8 - r) T len pl ord (pCmp ord T r) := by
  intro M k p u ay h hp hu
  have hS := PC_S (pl := pl) (ord := ord) hT hr
  have hk := h.2.2.2.2.2.2.2.2.2.2
  have hC := h.1
  unfold LayC at hC
  unfold cmpS
  simp only [hC, grd_T]
  obtain ⟨q, hq, a1, a2, a3⟩ := hS M k p u ay h hp hu
  rw [hq, Option.bind_some]
  have gg := GD_SUMr hT (ord := ord) r k p u hp hk
  unfold pCmp
  cases hsub : SUMr ord T r k p u with
  | inl j =>
    rw [hsub] at a3
    rw [a3.1, if_pos rfl, TT_some]
    exact ⟨a1, a2, rfl, a3.2⟩
  | inr x =>
    rw [hsub] at a3 gg
    obtain ⟨g1, g2, g3, g4, g5, g6⟩ := gg
    obtain ⟨c1, ay2, c2, c3, c4, c5⟩ := a3
    rw [c1, if_neg (show ¬ (1 : Int32) = 0 by decide), c_opOf c2, opA_C, Option.bind_some]
    simp only
    cases ho : opC (T x.1) with
    | none =>
      obtain ⟨qf, f1, f2, f3⟩ := PSQ_fail c2 (M0 := M) (u0 := u) (ay0 := ay) (by omega) a1 a2
      rw [if_pos (show oI none = -1 from rfl), f1, Option.bind_some, grd_y f2, TT_some]
      exact f3
    | some o =>
      have hoo : o = 8 ∨ o = 9 ∨ o = 10 := by
        rcases opC_or (T x.1) with ⟨_, e⟩ | ⟨_, e⟩ | ⟨_, e⟩ | ⟨_, _, _, e⟩ <;> rw [e] at ho <;> cases ho <;> omega
      have hxl : x.1 < len := lt_of_T hT (t := T x.1) rfl (opC_ne ho)
      rw [if_neg (show ¬ oI (some o) = -1 from nne_m1 (by omega)), c_next hT c2 hxl, Option.bind_some]
      obtain ⟨q2, hq2, b1', b2, b3⟩ := hS _ (x.1 + 1) x.2.1 (u + x.2.2.length) ay2 (c2.nxt hxl) g4 (by omega)
      rw [hq2, Option.bind_some]
      have g' := GD_SUMr hT (ord := ord) r (x.1 + 1) x.2.1 (u + x.2.2.length) g4 hxl
      simp only
      cases hsub2 : SUMr ord T r (x.1 + 1) x.2.1 (u + x.2.2.length) with
      | inl j =>
        rw [hsub2] at b3
        rw [b3.1, if_pos rfl, TT_some]
        exact ⟨(a1.tr fr_nxt).tr b1', fun i hi => by rw [b2 i (by omega), nxt_17, a2 i hi], rfl, b3.2⟩
      | inr y =>
        rw [hsub2] at b3 g'
        obtain ⟨f1, f2, f3, f4, f5, f6⟩ := g'
        obtain ⟨d1, ay3, d2, d3, d4, d5⟩ := b3
        have hC := d2.1
        unfold LayC at hC
        rw [d1, if_neg (show ¬ (1 : Int32) = 0 by decide)]
        simp only [hC, grd_T, Option.bind_some]
        rw [show oI (some o) = nI o from rfl, show (0 : Int32) = nI 0 from rfl, c_emit d2 (by have := d2.2.1; omega), Option.bind_some, TT_some]
        have hl : (x.2.2 ++ y.2.2 ++ [o]).length = x.2.2.length + y.2.2.length + 1 := by simp; omega
        refine ⟨((a1.tr fr_nxt).tr b1').tr fr_emt, fun i hi => ?_, rfl, ay3, ?_, ?_, fun w => d4 (c4 w), ?_⟩
        · rw [emt_17, if_neg (by omega), b2 i (by omega), nxt_17, a2 i hi]
        · show CP _ T len pl ord y.1 y.2.1 (u + (x.2.2 ++ y.2.2 ++ [o]).length) ay3
          rw [hl, ← Nat.add_assoc, ← Nat.add_assoc]
          exact d2.emt
        · intro i v hv
          simp only at hv
          rw [emt_17]
          by_cases w1 : i < x.2.2.length
          · rw [if_neg (by omega), b2 (u + i) (by omega), nxt_17]
            rw [List.append_assoc, List.getElem?_append_left w1] at hv
            exact c3 i v hv
          · by_cases w2 : i < x.2.2.length + y.2.2.length
            · rw [if_neg (by omega)]
              rw [List.append_assoc, List.getElem?_append_right (by omega), List.getElem?_append_left (by omega)] at hv
              have := d3 (i - x.2.2.length) v hv
              rw [show u + x.2.2.length + (i - x.2.2.length) = u + i by omega] at this
              exact this
            · have hi : i < x.2.2.length + y.2.2.length + 1 := by
                have := (List.getElem?_eq_some_iff.mp hv).1
                rw [hl] at this
                exact this
              obtain rfl : i = x.2.2.length + y.2.2.length := by omega
              rw [if_pos (by omega)]
              rw [List.getElem?_append_right (by simp), List.length_append, Nat.sub_self] at hv
              cases hv
              rw [Nat.mul_zero, Nat.zero_add]
        · intro w1 w2 v hv
          rcases List.mem_append.mp hv with hv | hv
          · rcases List.mem_append.mp hv with hv | hv
            · have hay1 : ay2 = false := by
                cases ay2 with
                | false => rfl
                | true => rw [d4 rfl] at w2; cases w2
              exact c5 w1 hay1 v hv
            · exact d5 w1 w2 v hv
          · rw [List.mem_singleton.mp hv]
            omega
end
noncomputable def jmB (g : Mem → Nat → Int32 → Option (Mem × Int32)) (tok jop p1 : Int32) : Mem × Int32 → Option ((Mem × Int32) ⊕ (Mem ⊕ Mem)) := (fun s7 => if 400 ≤ s7.2 then (some (.inr (.inl s7.1))) else (if (mI s7.1 11 8) = tok then (Option.bind (mR s7.1 11 3) (fun r20 => grd (okO s7.1 9 r20) (Option.bind (f_X9_emit s7.1 r20 jop 0) (fun q22 => Option.bind (f_X7_next q22.1 11) (fun q27 => Option.bind (g q27 11 p1) (fun q32 => if q32.2 = 0 then (some (.inr (.inr q32.1))) else (Option.bind (mR q32.1 11 3) (fun r37 => grd (okO q32.1 9 r37) (Option.bind (f_X9_aim q32.1 r37 q22.2) (fun q39 => bv (s7.2 + 1 : Int32) (fun x44 => some (.inl (q39, x44))))))))))))) else (some (.inr (.inl s7.1)))))
