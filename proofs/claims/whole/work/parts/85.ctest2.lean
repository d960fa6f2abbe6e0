/-! the class reads TESTS -/
section
variable {T : Nat → Nat} {len : Nat} {pl : Nat → Nat} {ord : Bool}
theorem c_aim {M : Mem} {k p u j v : Nat} {ay : Bool} (h : CP M T len pl ord k p u ay) (hu : u ≤ 400) (hj : j < u) (hv : mI M 17 j = nI v) : f_X9_aim M 15 (nI j) = some (wI M 17 j (nI (16 * u + v))) := by
  obtain ⟨h1, h2, h3, h4, h5, h6, h7, h8, h9, h10, h11⟩ := h
  unfold f_X9_aim
  unfold LayC at h1
  rw [if_neg (show ¬ nI j < 0 from fun w => by have := (nltI (b := 0) (by omega) (by decide)).mp w; omega)]
  simp only [h1, grd_T, Option.bind_some, bv, h9]
  rw [if_neg (fun w => by have := (nleI (by omega) (by omega)).mp w; omega), grd_y ((nvp (by omega)).mpr (by omega)), nclampI (by omega), hv, show (16 : Int32) = nI 16 from rfl, nmul, nadd, Nat.mul_comm u 16, Nat.add_comm v]
theorem PC_loopJ (hT : ∀ j, len ≤ j → T j = 256) {g : Mem → Nat → Int32 → Option (Mem × Int32)} {dep tok jop : Nat} (htk : tok ≠ 256) (htk2 : tok < 2147483648) (hj : jop = 12 ∨ jop = 13) {sub : PF3} (hg : GD len sub) (hs : PC g dep T len pl ord sub) {M : Mem} {u k0 p0 : Nat} {ay : Bool} (hu : u ≤ k0) : ∀ n k p acc M1 ay1, n ≤ 400 → GDr len k0 p0 (.inr (k, p, acc)) → Fr Sps M M1 → (∀ i, i < u → mI M1 17 i = mI M 17 i) → CP M1 T len pl ord k p (u + acc.length) ay1 → (∀ i v, acc[i]? = some v → mI M1 17 (u + i) = nI v) → (ay = true → ay1 = true) → (ord = false → ay1 = false → ∀ v ∈ acc, v ≠ 98) → TT (loopO (jmB g (nI tok) (nI jop) (nI dep)) (M1, nI (400 - n))) (fun z => TT (Sum.elim (fun (x19 : Mem) => (some (x19, 1) : Option (Mem × Int32))) (fun (x21 : Mem) => some (x21, 0)) z) (PSQ M T len pl ord u ay (lpJ T sub tok jop u n k p acc))) := by
  intro n
  induction n with
  | zero =>
    intro k p acc M1 ay1 hn hgd hF h17 hc hacc ha1 ha2
    rw [loopO_eq, jmB]
    simp only
    rw [if_pos (show (400 : Int32) ≤ nI (400 - 0) by decide)]
    exact ⟨_, rfl, _, rfl, hF, h17, rfl, ay1, hc, hacc, ha1, ha2⟩
  | succ n ih =>
    intro k p acc M1 ay1 hn hgd hF h17 hc hacc ha1 ha2
    obtain ⟨e1, e2, e3, e4, e5, e6⟩ := hgd
    simp only at e1 e2 e3 e4 e5 e6
    have hc0 := hc
    obtain ⟨h1, h2, h3, h4, h5, h6, h7, h8, h9, h10, h11⟩ := hc
    have hb := h3 k
    have etk : (nI (T k) = nI tok) ↔ T k = tok := neqI hb htk2
    have hC := h1
    unfold LayC at hC
    rw [lpJ]
    by_cases q : T k = tok
    · have hkl : k < len := lt_of_T hT q htk
      have step : jmB g (nI tok) (nI jop) (nI dep) (M1, nI (400 - (n + 1))) = Option.bind (g (NXT (EMT M1 (u + acc.length) (16 * 0 + jop)) T k) 11 (nI dep)) (fun q32 => if q32.2 = 0 then (some (.inr (.inr q32.1))) else (Option.bind (mR q32.1 11 3) (fun r37 => grd (okO q32.1 9 r37) (Option.bind (f_X9_aim q32.1 r37 (nI (u + acc.length))) (fun q39 => some (.inl (q39, nI (400 - n)))))))) := by
        unfold jmB
        simp only [bv]
        rw [if_neg (show ¬ (400 : Int32) ≤ nI (400 - (n + 1)) from fun w => by have := (nleI (a := 400) (by decide) (by omega)).mp w; omega), h7, if_pos (etk.mpr q)]
        simp only [hC, grd_T, Option.bind_some]
        rw [show (0 : Int32) = nI 0 from rfl, c_emit hc0 (by omega), Option.bind_some]
        simp only
        rw [c_next hT hc0.emt hkl, Option.bind_some, nsucc, show 400 - (n + 1) + 1 = 400 - n by omega]
      rw [loopO_eq, step, if_pos q]
      obtain ⟨qq, hq, a1, a2, a3⟩ := hs _ (k + 1) p (u + acc.length + 1) ay1 (hc0.emt.nxt hkl) e4 (by omega)
      rw [hq, Option.bind_some]
      have gg := hg (k + 1) p (u + acc.length + 1) e4 hkl
      cases hsub : sub (k + 1) p (u + acc.length + 1) with
      | inl j =>
        rw [hsub] at a3
        rw [a3.1, if_pos rfl]
        exact ⟨_, rfl, _, rfl, ((hF.tr fr_emt).tr fr_nxt).tr a1, fun i hi => by rw [a2 i (by omega), nxt_17, emt_17, if_neg (by omega), h17 i hi], rfl, a3.2⟩
      | inr x =>
        rw [hsub] at a3 gg
        obtain ⟨g1, g2, g3, g4, g5, g6⟩ := gg
        obtain ⟨c1, ay2, c2, c3, c4, c5⟩ := a3
        have hC := c2.1
        unfold LayC at hC
        rw [c1, if_neg (show ¬ (1 : Int32) = 0 by decide)]
        simp only [hC, grd_T, Option.bind_some]
        have hj0 : mI qq.1 17 (u + acc.length) = nI jop := by
          rw [a2 _ (by omega), nxt_17, emt_17, if_pos rfl, Nat.mul_zero, Nat.zero_add]
        rw [c_aim c2 (by have := c2.2.1; omega) (by omega) hj0, Option.bind_some]
        simp only
        have hFa : Fr Sps qq.1 (wI qq.1 17 (u + acc.length) (nI (16 * (u + acc.length + 1 + x.2.2.length) + jop))) := Fr.rf.wI (Or.inr (Or.inr rfl))
        have hl : (acc ++ (16 * (u + acc.length + 1 + x.2.2.length) + jop) :: x.2.2).length = acc.length + 1 + x.2.2.length := by simp; omega
        obtain ⟨k1, k2, k3, k4, k5, k6, k7, k8, k9, k10, k11⟩ := id c2
        have hc3 : CP (wI qq.1 17 (u + acc.length) (nI (16 * (u + acc.length + 1 + x.2.2.length) + jop))) T len pl ord x.1 x.2.1 (u + acc.length + 1 + x.2.2.length) ay2 := c2.fr hFa (by rw [mI_wI_row (by decide)]) (by rw [mI_wI_row (by decide)]; exact k6) (by rw [mI_wI_row (by decide)]; exact k7) (by rw [mI_wI_row (by decide)]; exact k8) (by rw [mI_wI_row (by decide)]; exact k9) (by rw [mI_wI_row (by decide)]; exact k10) k11
        refine ih x.1 x.2.1 _ _ ay2 (by omega) ?_ ((((hF.tr fr_emt).tr fr_nxt).tr a1).tr hFa) ?_ (by rw [hl, show u + (acc.length + 1 + x.2.2.length) = u + acc.length + 1 + x.2.2.length by omega]; exact hc3) ?_ (fun w => c4 (ha1 w)) ?_
        · refine ⟨by show k0 < x.1; omega, g2, by show p0 < x.2.1; omega, g4, by rw [hl]; omega, by rw [hl]; show _ ≤ x.1; omega⟩
        · intro i hi
          rw [mI_wI_ne (by omega), a2 i (by omega), nxt_17, emt_17, if_neg (by omega), h17 i hi]
        · intro i v hv
          by_cases w1 : i < acc.length
          · rw [mI_wI_ne (by omega), a2 (u + i) (by omega), nxt_17, emt_17, if_neg (by omega)]
            rw [List.getElem?_append_left w1] at hv
            exact hacc i v hv
          · rw [List.getElem?_append_right (by omega)] at hv
            by_cases w2 : i = acc.length
            · subst w2
              rw [mI_wIs]
              rw [Nat.sub_self] at hv
              cases hv
              rfl
            · obtain ⟨m, hm⟩ : ∃ m, i - acc.length = m + 1 := ⟨i - acc.length - 1, by omega⟩
              rw [hm] at hv
              rw [mI_wI_ne (by omega)]
              have := c3 m v hv
              rw [show u + acc.length + 1 + m = u + i by omega] at this
              exact this
        · intro w1 w2 v hv
          rcases List.mem_append.mp hv with hv | hv
          · have hay1 : ay1 = false := by
              cases ay1 with
              | false => rfl
              | true => rw [c4 rfl] at w2; cases w2
            exact ha2 w1 hay1 v hv
          · rcases List.mem_cons.mp hv with hv | hv
            · rw [hv]
              omega
            · exact c5 w1 w2 v hv
    · have step : jmB g (nI tok) (nI jop) (nI dep) (M1, nI (400 - (n + 1))) = some (.inr (.inl M1)) := by
        unfold jmB
        simp only [bv]
        rw [if_neg (show ¬ (400 : Int32) ≤ nI (400 - (n + 1)) from fun w => by have := (nleI (a := 400) (by decide) (by omega)).mp w; omega), h7, if_neg (fun w => q (etk.mp w))]
      rw [loopO_eq, step, if_neg q]
      exact ⟨_, rfl, _, rfl, hF, h17, rfl, ay1, hc0, hacc, ha1, ha2⟩
theorem PC_seqJ (hT : ∀ j, len ≤ j → T j = 256) {g F : Mem → Nat → Int32 → Option (Mem × Int32)} {dep tok jop : Nat} (htk : tok ≠ 256) (htk2 : tok < 2147483648) (hj : jop = 12 ∨ jop = 13) {sub : PF3} (hg : GD len sub) (hs : PC g dep T len pl ord sub) (hF2 : ∀ M, okO M 7 11 → F M 11 (nI dep) = Option.bind (g M 11 (nI dep)) (fun q2 => if q2.2 = 0 then (some (q2.1, 0)) else (Option.bind (loopO (jmB g (nI tok) (nI jop) (nI dep)) (q2.1, 0)) (Sum.elim (fun (x16 : Mem) => some (x16, 1)) (fun (x18 : Mem) => some (x18, 0)))))) : PC F dep T len pl ord (pSeqJ T sub tok jop) := by
  intro M k p u ay h hp hu
  have hC := h.1
  unfold LayC at hC
  rw [hF2 M (by simp only [hC])]
  obtain ⟨q, hq, a1, a2, a3⟩ := hs M k p u ay h hp hu
  rw [hq, Option.bind_some]
  have hk := h.2.2.2.2.2.2.2.2.2.2
  have gg := hg k p u hp hk
  unfold pSeqJ
  cases hsub : sub k p u with
  | inl j =>
    rw [hsub] at a3
    rw [a3.1, if_pos rfl, TT_some]
    exact ⟨a1, a2, rfl, a3.2⟩
  | inr x =>
    rw [hsub] at a3 gg
    obtain ⟨c1, ay2, c2, c3, c4, c5⟩ := a3
    rw [c1, if_neg (show ¬ (1 : Int32) = 0 by decide), TT_bind]
    exact PC_loopJ hT htk htk2 hj hg hs hu 400 x.1 x.2.1 x.2.2 q.1 ay2 (by omega) gg a1 a2 c2 c3 c4 c5
theorem c_nots (hT : ∀ j, len ≤ j → T j = 256) {M : Mem} {p u : Nat} {ay : Bool} : ∀ n k (par : Bool) M1, n ≤ 400 → CP M1 T len pl ord k p u ay → Fr Sps M M1 → (∀ i, mI M1 17 i = mI M 17 i) → TT (loopO (σ := Mem × Int32 × Int32) (ρ := Mem × Int32) (fun s1 => if 400 ≤ s1.2.2 then (some (.inr (s1.1, s1.2.1))) else (grd (okO s1.1 7 11) (if (mI s1.1 11 8) = 265 then (bv (fun (s11 : Int32) => Option.bind (f_X7_next s1.1 11) (fun q14 => bv (s1.2.2 + 1 : Int32) (fun x19 => some (.inl (q14, s11, x19))))) (fun j10 => if s1.2.1 = 0 then (j10 1) else (j10 0))) else (some (.inr (s1.1, s1.2.1)))))) (M1, b1 par, nI (400 - n))) (fun q => Fr Sps M q.1 ∧ (∀ i, mI q.1 17 i = mI M 17 i) ∧ CP q.1 T len pl ord (nots T n k) p u ay ∧ q.2 = b1 (par != decide ((nots T n k - k) % 2 = 1))) := by
  intro n
  induction n with
  | zero =>
    intro k par M1 hn hc hF h17
    rw [loopO_eq]
    simp only
    rw [if_pos (show (400 : Int32) ≤ nI (400 - 0) by decide)]
    refine ⟨_, rfl, hF, h17, hc, ?_⟩
    rw [nots, Nat.sub_self]
    cases par <;> rfl
  | succ n ih =>
    intro k par M1 hn hc hF h17
    obtain ⟨h1, h2, h3, h4, h5, h6, h7, h8, h9, h10, h11⟩ := id hc
    have hb := h3 k
    have e265 : (nI (T k) = 265) ↔ T k = 265 := eL hb 265 (by decide)
    have hC := h1
    unfold LayC at hC
    rw [loopO_eq]
    simp only [hC, grd_T, h7, bv]
    rw [if_neg (show ¬ (400 : Int32) ≤ nI (400 - (n + 1)) from fun w => by have := (nleI (a := 400) (by decide) (by omega)).mp w; omega), nots]
    by_cases q : T k = 265
    · have hkl := lt_of_T hT q (by decide)
      rw [if_pos (e265.mpr q), if_pos q, c_next hT hc hkl]
      simp only [Option.bind_some]
      rw [nsucc, show 400 - (n + 1) + 1 = 400 - n by omega]
      have key := ih (k + 1) (!par) (NXT M1 T k) (by omega) (hc.nxt hkl) (hF.tr fr_nxt) (fun i => by rw [nxt_17, h17 i])
      have hnn := nots_le hT n (k + 1) hkl
      have e : ∀ x : Bool, (x = (par != decide ((nots T n (k + 1) - k) % 2 = 1))) ↔ (x = ((!par) != decide ((nots T n (k + 1) - (k + 1)) % 2 = 1))) := by
        intro x
        have e : decide ((nots T n (k + 1) - k) % 2 = 1) = !decide ((nots T n (k + 1) - (k + 1)) % 2 = 1) := by
          by_cases q : (nots T n (k + 1) - (k + 1)) % 2 = 1
          · rw [decide_eq_true q, decide_eq_false (by omega)]; rfl
          · rw [decide_eq_false q, decide_eq_true (by omega)]; rfl
        rw [e]
        cases par <;> cases decide ((nots T n (k + 1) - (k + 1)) % 2 = 1) <;> exact Iff.rfl
      cases par with
      | false =>
        rw [if_pos (show b1 false = 0 from rfl)]
        refine key.mono ?_
        rintro q ⟨a1, a2, a3, a4⟩
        exact ⟨a1, a2, a3, by rw [a4, ← (e _).mpr rfl]⟩
      | true =>
        rw [if_neg (show ¬ b1 true = 0 by decide)]
        refine key.mono ?_
        rintro q ⟨a1, a2, a3, a4⟩
        exact ⟨a1, a2, a3, by rw [a4, ← (e _).mpr rfl]⟩
    · rw [if_neg (fun w => q (e265.mp w)), if_neg q]
      refine ⟨_, rfl, hF, h17, hc, ?_⟩
      rw [Nat.sub_self]
      cases par <;> rfl
noncomputable def plO (g_X7_inRound : Mem → Nat → Int32 → Option (Mem × Int32)) (M : Mem) (a0 : Nat) (p1 : Int32) : Option (Mem × Int32) :=
  Option.bind (loopO (σ := Mem × Int32 × Int32) (ρ := Mem × Int32) (fun s1 => if 400 ≤ s1.2.2 then (some (.inr (s1.1, s1.2.1))) else (grd (okO s1.1 7 a0) (if (mI s1.1 a0 8) = 265 then (bv (fun (s11 : Int32) => Option.bind (f_X7_next s1.1 a0) (fun q14 => bv (s1.2.2 + 1 : Int32) (fun x19 => some (.inl (q14, s11, x19))))) (fun j10 => if s1.2.1 = 0 then (j10 1) else (j10 0))) else (some (.inr (s1.1, s1.2.1)))))) (M, 0, 0)) (fun (x7 : Mem × Int32) => grd (okO x7.1 7 a0) (bv (fun (s22 : Mem) => if x7.2 = 0 then (some (s22, 1)) else (Option.bind (mR s22 a0 3) (fun r26 => grd (okO s22 9 r26) (Option.bind (f_X9_emit s22 r26 11 0) (fun q28 => some (q28.1, 1)))))) (fun j21 => if (mI x7.1 a0 8) = 40 then (Option.bind (g_X7_inRound x7.1 a0 p1) (fun q38 => if q38.2 = 0 then (some (q38.1, 0)) else (j21 q38.1))) else (Option.bind (cmpS x7.1 a0 p1) (fun q33 => if q33.2 = 0 then (some (q33.1, 0)) else (j21 q33.1))))))
theorem grd_no {α : Type} {c : Prop} {k : Option α} (h : ¬ c) : grd c k = none := if_neg h
theorem fail_0 {M : Mem} {a : Nat} {q : Mem × Int32} (h : f_X7_fail M a = some q) : q.2 = 0 := by
  unfold f_X7_fail at h
  obtain ⟨_, h⟩ := grd_some.mp h
  obtain ⟨r, _, h⟩ := Option.bind_eq_some_iff.mp h
  obtain ⟨_, h⟩ := grd_some.mp h
  obtain ⟨_, h⟩ := grd_some.mp h
  simp only [bv] at h
  cases h
  rfl
theorem pl_eq {g : Mem → Nat → Int32 → Option (Mem × Int32)} {M : Mem} {a : Nat} {p : Int32} : b_X7_plain g M a p = plO g M a p := by
  unfold b_X7_plain plO
  congr 1
  funext x
  by_cases h : okO x.1 7 a
  · rw [grd_y h, grd_y h]
    simp only [bv]
    unfold cmpS
    by_cases h4 : mI x.1 a 8 = 40
    · rw [if_pos h4, if_pos h4]
    · rw [if_neg h4, if_neg h4, grd_y h]
      cases f_X7_sum 100 x.1 a p with
      | none => rfl
      | some q =>
        simp only [Option.bind_some]
        by_cases q0 : q.2 = 0
        · rw [if_pos q0, if_pos q0]
          rfl
        · rw [if_neg q0, if_neg q0]
          cases f_X7_opOf q.1 a 8 10 with
          | none => rfl
          | some o =>
            simp only [Option.bind_some]
            by_cases o1 : o = -1
            · rw [if_pos o1, if_pos o1]
              cases hf : f_X7_fail q.1 a with
              | none => rfl
              | some z =>
                have hz := fail_0 hf
                simp only [Option.bind_some]
                rw [hz]
                by_cases hb : bl (0 : Int32)
                · rw [grd_t hb, Option.bind_some, if_pos rfl]
                · rw [grd_no hb]
                  rfl
            · rw [if_neg o1, if_neg o1]
              cases f_X7_next q.1 a with
              | none => rfl
              | some n =>
                simp only [Option.bind_some]
                cases f_X7_sum 100 n a p with
                | none => rfl
                | some s =>
                  simp only [Option.bind_some]
                  by_cases s0 : s.2 = 0
                  · rw [if_pos s0, if_pos s0]
                    rfl
                  · rw [if_neg s0, if_neg s0]
                    cases mR s.1 a 3 with
                    | none => rfl
                    | some r =>
                      simp only [Option.bind_some]
                      by_cases ok : okO s.1 9 r
                      · rw [grd_y ok, grd_y ok]
                        cases f_X9_emit s.1 r o 0 with
                        | none => rfl
                        | some e => rfl
                      · rw [grd_no ok, grd_no ok]
                        rfl
  · rw [grd_no h, grd_no h]
theorem PC_plain (hT : ∀ j, len ≤ j → T j = 256) {d r : Nat} (hr : r ≤ 8) {rd : PF3} (hgrd : ∀ k p u, p ≤ 50 → k ≤ len → T k = 40 → GDr len k p (rd k p u)) (hrd : ∀ M k p u ay, CP M T len pl ord k p u ay → p ≤ 50 → u ≤ k → T k = 40 → TT (f_X7_inRound d M 11 (nI (8 - r))) (PSQ M T len pl ord u ay (rd k p u))) : PC (f_X7_plain (d + 1)) (8 - r) T len pl ord (pPlain ord T rd r) := by
  intro M k p u ay h hp hu
  show TT (b_X7_plain (f_X7_inRound d) M 11 (nI (8 - r))) _
  rw [pl_eq]
  unfold plO
  rw [TT_bind]
  refine (c_nots hT 400 k false M (by omega) h Fr.rf (fun i => rfl)).mono ?_
  rintro ⟨M1, y⟩ ⟨a1, a2, a3, a4⟩
  simp only at a1 a2 a3 a4 ⊢
  have hk := h.2.2.2.2.2.2.2.2.2.2
  have hn := nots_le hT 400 k hk
  obtain ⟨h1, h2, h3, h4, h5, h6, h7, h8, h9, h10, h11⟩ := id a3
  have hb := h3 (nots T 400 k)
  have e40 : (nI (T (nots T 400 k)) = 40) ↔ T (nots T 400 k) = 40 := eL hb 40 (by decide)
  have hC := h1
  unfold LayC at hC
  simp only [hC, grd_T, bv, h7]
  unfold pPlain
  have eod : (y = 0) ↔ ¬ (nots T 400 k - k) % 2 = 1 := by
    rw [a4, b1_0]
    by_cases q : (nots T 400 k - k) % 2 = 1
    · rw [decide_eq_true q]; simp [q]
    · rw [decide_eq_false q]; simp [q]
  generalize hk0 : nots T 400 k = k0 at *
  have fin : ∀ (z : PR) (q : Mem × Int32), GDr len k0 p z → PSQ M1 T len pl ord u ay z q → TT (if q.2 = 0 then (some (q.1, 0)) else (if y = 0 then (some (q.1, 1)) else (Option.bind (mR q.1 11 3) (fun r26 => grd (okO q.1 9 r26) (Option.bind (f_X9_emit q.1 r26 11 0) (fun q28 => some (q28.1, 1))))))) (PSQ M T len pl ord u ay (match z with
      | .inl j => .inl j
      | .inr x => .inr (x.1, x.2.1, if (k0 - k) % 2 = 1 then x.2.2 ++ [11] else x.2.2))) := by
    intro z q hg hq
    obtain ⟨c1, c2, c3⟩ := hq
    cases z with
    | inl j =>
      rw [c3.1, if_pos rfl, TT_some]
      exact ⟨a1.tr c1, fun i hi => by rw [c2 i hi, a2], rfl, c3.2⟩
    | inr x =>
      obtain ⟨d1, ay2, d2, d3, d4, d5⟩ := c3
      obtain ⟨g1, g2, g3, g4, g5, g6⟩ := hg
      rw [d1, if_neg (show ¬ (1 : Int32) = 0 by decide)]
      simp only
      by_cases q1 : (k0 - k) % 2 = 1
      · rw [if_pos q1, if_neg (fun w => eod.mp w q1)]
        have hC := d2.1
        unfold LayC at hC
        simp only [hC, grd_T, Option.bind_some]
        rw [show (11 : Int32) = nI 11 from rfl, show (0 : Int32) = nI 0 from rfl, c_emit d2 (by omega), Option.bind_some, TT_some]
        refine ⟨(a1.tr c1).tr fr_emt, fun i hi => by rw [emt_17, if_neg (by omega), c2 i hi, a2], rfl, ay2, ?_, ?_, d4, ?_⟩
        · show CP _ T len pl ord x.1 x.2.1 (u + (x.2.2 ++ [11]).length) ay2
          rw [List.length_append, List.length_singleton, ← Nat.add_assoc]
          exact d2.emt
        · intro i v hv
          simp only at hv
          rw [emt_17]
          by_cases w1 : i < x.2.2.length
          · rw [if_neg (by omega)]
            rw [List.getElem?_append_left w1] at hv
            exact d3 i v hv
          · have hi : i < x.2.2.length + 1 := by
              have := (List.getElem?_eq_some_iff.mp hv).1
              simpa using this
            obtain rfl : i = x.2.2.length := by omega
            rw [if_pos rfl]
            rw [List.getElem?_append_right (by simp), Nat.sub_self] at hv
            cases hv
            rfl
        · intro w1 w2 v hv
          rcases List.mem_append.mp hv with hv | hv
          · exact d5 w1 w2 v hv
          · rw [List.mem_singleton.mp hv]
            decide
      · rw [if_neg q1, if_pos (eod.mpr q1), TT_some]
        exact ⟨a1.tr c1, fun i hi => by rw [c2 i hi, a2], rfl, ay2, d2, d3, d4, d5⟩
  by_cases q : T k0 = 40
  · rw [if_pos (e40.mpr q), if_pos q, TT_bind]
    refine (hrd M1 k0 p u ay a3 hp (by omega) q).mono ?_
    intro qq hqq
    exact fin _ qq (hgrd k0 p u hp hn.2 q) hqq
  · rw [if_neg (fun w => q (e40.mp w)), if_neg q, TT_bind]
    refine (PC_cmp hT hr M1 k0 p u ay a3 hp (by omega)).mono ?_
    intro qq hqq
    exact fin _ qq (GD_cmp hT r k0 p u hp hn.2) hqq
theorem PC_test_of (hT : ∀ j, len ≤ j → T j = 256) {d dep : Nat} {f : PF3} (hg : GD len f) (h : PC (f_X7_plain d) dep T len pl ord f) : PC (f_X7_test (d + 2)) dep T len pl ord (pSeqJ T (pSeqJ T f 264 13) 263 12) := by
  have hbo : PC (f_X7_both (d + 1)) dep T len pl ord (pSeqJ T f 264 13) := PC_seqJ hT (by decide) (by decide) (Or.inr rfl) hg h (fun M ok => grd_y ok)
  exact PC_seqJ hT (by decide) (by decide) (Or.inl rfl) (GD_seqJ hT hg (by decide)) hbo (fun M ok => grd_y ok)
theorem PC_TESTr (hT : ∀ j, len ≤ j → T j = 256) : ∀ r d, r ≤ 8 → PC (f_X7_test (4 * r + d + 4)) (8 - r) T len pl ord (TESTr ord T r)
  | 0, d, _ => by
    rw [show 4 * 0 + d + 4 = (d + 1 + 1) + 2 by omega]
    exact PC_test_of hT (GD_plain hT 0 (fun k p u hp hk _ => hk)) (PC_plain hT (by omega) (fun k p u hp hk _ => hk) (fun M k p u ay h hp hu hTk => PC_deep (G := f_X7_test d) (c := 41) h))
  | r + 1, d, hr => by
    rw [show 4 * (r + 1) + d + 4 = (4 * r + d + 4 + 1 + 1) + 2 by omega]
    have hs := PC_TESTr hT r d (by omega)
    rw [show 8 - r = 8 - (r + 1) + 1 by omega] at hs
    exact PC_test_of hT (GD_plain hT (r + 1) (fun k p u hp hk e => GD_sq hT (by decide) (GD_TESTr hT r) (T0 := 40) (by decide) hp e)) (PC_plain hT hr (fun k p u hp hk e => GD_sq hT (by decide) (GD_TESTr hT r) (T0 := 40) (by decide) hp e) (fun M k p u ay h hp hu hTk => PC_sq hT (c := 41) (by decide) (op := 40) (by decide) (by omega) (GD_TESTr hT r) hs M k p u ay h hp hu hTk))
theorem PC_T (hT : ∀ j, len ≤ j → T j = 256) : PC (f_X7_test 100) 0 T len pl ord (TESTr ord T 8) := PC_TESTr hT 8 64 (by omega)
theorem PC_S0 (hT : ∀ j, len ≤ j → T j = 256) : PC (f_X7_sum 100) 0 T len pl ord (SUMr ord T 8) := PC_S hT (r := 8) (by omega)
end
