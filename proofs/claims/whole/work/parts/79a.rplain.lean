/-! comparisons, "not", TESTS in brackets -/
def cmB (o : Nat) (a b : Int) : Bool := if o = 8 then decide (a < b) else if o = 9 then decide (b < a) else decide (a = b)
theorem ap_cm {o : Nat} (h : o = 8 ∨ o = 9 ∨ o = 10) (a b : Int) : ap o a b = some (bi (cmB o a b)) := by
  unfold ap cmB bi
  rcases h with rfl | rfl | rfl <;> simp <;> split <;> simp_all
theorem opC_or (t : Nat) : (t = 60 ∧ opC t = some 8) ∨ (t = 62 ∧ opC t = some 9) ∨ (t = 61 ∧ opC t = some 10) ∨ (t ≠ 60 ∧ t ≠ 62 ∧ t ≠ 61 ∧ opC t = none) := by
  unfold opC
  by_cases h : t = 60
  · exact Or.inl ⟨h, if_pos h⟩
  · by_cases h2 : t = 62
    · exact Or.inr (Or.inl ⟨h2, by rw [if_neg h, if_pos h2]⟩)
    · by_cases h3 : t = 61
      · exact Or.inr (Or.inr (Or.inl ⟨h3, by rw [if_neg h, if_neg h2, if_pos h3]⟩))
      · exact Or.inr (Or.inr (Or.inr ⟨h, h2, h3, by rw [if_neg h, if_neg h2, if_neg h3]⟩))
section
variable {T : Nat → Nat} {len : Nat} {ord : Bool}
theorem TS_cmp (hT : ∀ j, len ≤ j → T j = 256) {d k k1 k2 o : Nat} {v1 v2 : (Nat → Int32) → Option Int} (hk : k ≤ len) (hk1 : k1 < len) (hT0 : T k ≠ 40) (ho : opC (T k1) = some o) (b1v : VB v1) (b2v : VB v2) (h1 : RSV (f_X12_sumOf 100) T len ord k k1 v1) (h2 : RSV (f_X12_sumOf 100) T len ord (k1 + 1) k2 v2) : TSV (f_X12_positiveOf (d + 1)) T len ord k k2 (fun W => (v1 W).bind (fun a => (v2 W).bind (fun b => some (cmB o a b)))) := by
  intro M B W hE hgo hb live
  have hp := r_passes hT hE (c := 140) hk hgo (by omega)
  rw [if_neg (fun w => hT0 ((rc_byte (c := 40) (by decide)).mp w))] at hp
  have hM := hE.1
  show TT (b_X12_positiveOf (f_X12_testOf d) M 47 (b1 live)) _
  unfold b_X12_positiveOf f_X12_sign
  unfold LayM at hM
  simp only [Option.bind_some, show (100 + 40 : Int32) = nI 140 from rfl, hM, grd_T, hp, if_true]
  rw [TT_bind]
  refine (h1 M B W hE hgo hb live).mono ?_
  rintro ⟨M1, v⟩ hR
  have hR0 := hR
  obtain ⟨hF, hgo1, -⟩ := hR
  simp only at hF hgo1
  have hca := r_codeAt hT (hE.fr hF) (Nat.le_of_lt hk1)
  simp only [hgo1, hca, Option.bind_some, bv, nsucc]
  have hx28 : mI (wI M1 47 26 (nI (B + k1 + 1))) 47 28 = mI M1 47 28 := mI_wI_ne (by decide)
  have hF1 : Fr Sgo M (wI M1 47 26 (nI (B + k1 + 1))) := hF.wI Sgo26
  have hb1 := hR0.br hb
  simp only at hb1
  rw [TT_bind]
  refine (h2 _ B W (hE.fr hF1) mI_wIs (by rw [hx28]; exact hb1) live).mono ?_
  rintro ⟨M2, w⟩ hq
  have hmd := modes hb (fun x hx => b1v W x hx) hR0 hx28 hq
  obtain ⟨q1, q2, -⟩ := hq
  simp only at q1 q2 ⊢
  have n10 : ¬ (1 : Int32) = 0 := by decide
  rcases hmd with ⟨a, b, l1, l2, l3, l4, l5, l6, l7⟩ | ⟨a, l1, l2, l3, l4, l5, l6, l7⟩ | ⟨l1, l2, l3, l4⟩
  · subst l1
    rw [if_neg (show ¬ b1 true = 0 by decide), if_pos l7, l5, l6, l3, l4]
    have ha := (b1v W a l3).r
    have hbb := (b2v W b l4).r
    have c60 : (nI (rc (T k1)) = 100 + 60) ↔ T k1 = 60 := sg 60 (by decide)
    have c62 : (nI (rc (T k1)) = 100 + 62) ↔ T k1 = 62 := sg 62 (by decide)
    have fin : ∀ x : Bool, x = cmB o a b → TG M true B k2 ((some a).bind (fun a => (some b).bind (fun b => some (cmB o a b)))) (M2, b1 x) := by
      rintro x rfl
      refine ⟨hF1.tr q1, q2, ⟨_, rfl⟩, ?_⟩
      rw [if_pos ⟨rfl, l2⟩]
      exact ⟨rfl, l7⟩
    rcases opC_or (T k1) with ⟨e, e2⟩ | ⟨e, e2⟩ | ⟨e, e2⟩ | ⟨e1, e2, e3, e4⟩
    · rw [e2] at ho; cases ho
      rw [if_pos (c60.mpr e), TT_if, lgc2 ha hbb, TT_some, TT_some]
      exact ⟨fun q => fin false (by simp [cmB]; omega), fun q => fin true (by simp [cmB]; omega)⟩
    · rw [e2] at ho; cases ho
      rw [if_neg (fun w => by have := c60.mp w; omega), if_pos (c62.mpr e), TT_if, lgc3 ha hbb, TT_some, TT_some]
      exact ⟨fun q => fin false (by simp [cmB]; omega), fun q => fin true (by simp [cmB]; omega)⟩
    · rw [e2] at ho; cases ho
      rw [if_neg (fun w => by have := c60.mp w; omega), if_neg (fun w => by have := c62.mp w; omega), TT_if, lgc0 ha hbb, TT_some, TT_some]
      exact ⟨fun q => fin true (by simp [cmB]; omega), fun q => fin false (by simp [cmB]; omega)⟩
    · rw [e4] at ho; cases ho
  · subst l1
    have hn : ((v1 W).bind (fun a => (v2 W).bind (fun b => some (cmB o a b)))) = none := by
      rcases l3 with l3 | l3
      · rw [l3]; rfl
      · rw [l3]; cases v1 W <;> rfl
    rw [if_neg (show ¬ b1 true = 0 by decide), if_neg (by rw [l7]; decide), TT_some]
    rw [hn]
    refine ⟨hF1.tr q1, q2, ⟨false, rfl⟩, ?_⟩
    rw [if_pos ⟨rfl, l2⟩]
    exact l7
  · have fin : TG M live B k2 ((v1 W).bind (fun a => (v2 W).bind (fun b => some (cmB o a b)))) (M2, 0) := by
      refine ⟨hF1.tr q1, q2, ⟨false, rfl⟩, ?_⟩
      rw [if_neg l1]
      exact l4
    cases live with
    | false =>
      rw [if_pos (show b1 false = 0 from rfl), TT_some]
      exact fin
    | true =>
      rw [if_neg (show ¬ b1 true = 0 by decide), if_neg (fun w => l1 ⟨rfl, by rw [← l4]; exact w⟩), TT_some]
      exact fin
theorem TS_rd (hT : ∀ j, len ≤ j → T j = 256) {d k k1 : Nat} {vt : (Nat → Int32) → Option Bool} (hk : k < len) (h1 : T k = 40) (hs : TSV (f_X12_testOf d) T len ord (k + 1) k1 vt) : TSV (f_X12_positiveOf (d + 1)) T len ord k (k1 + 1) vt := by
  intro M B W hE hgo hb live
  have hp := r_passes hT hE (c := 140) (Nat.le_of_lt hk) hgo (by omega)
  rw [if_pos ((rc_byte (c := 40) (by decide)).mpr h1)] at hp
  have hM := hE.1
  show TT (b_X12_positiveOf (f_X12_testOf d) M 47 (b1 live)) _
  unfold b_X12_positiveOf f_X12_sign
  unfold LayM at hM
  simp only [Option.bind_some, show (100 + 40 : Int32) = nI 140 from rfl, hM, grd_T, hp, bv]
  have hfr : Fr Sgo M (wI M 47 26 (nI (B + (k + 1)))) := Fr.rf.wI Sgo26
  have e28 : mI (wI M 47 26 (nI (B + (k + 1)))) 47 28 = mI M 47 28 := mI_wI_ne (by decide)
  rw [if_neg (by decide), TT_bind]
  refine (hs _ B W (hE.fr hfr) mI_wIs (by rw [e28]; exact hb) live).mono ?_
  rintro ⟨M2, y⟩ ⟨a, b, ⟨w, hw⟩, c⟩
  simp only at a b hw c ⊢
  subst hw
  rw [grd_y (b1_bl w), TT_some, b, nsucc]
  refine ⟨(hfr.tr a).wI Sgo26, mI_wIs, ⟨w, rfl⟩, ?_⟩
  rw [e28] at c
  simp only
  rw [mI_wI_ne (by decide)]
  exact c
theorem JPT_pos (hT : ∀ j, len ≤ j → T j = 256) (hlen : len ≤ 400) {d r : Nat} (hr : r ≤ 8) {rd : PF3} (hrd : ∀ k p u x, p ≤ 50 → k ≤ len → T k = 40 → rd k p u = .inr x → ∃ vt, JT u p x.2.1 x.2.2 vt ∧ TSV (f_X12_positiveOf (d + 1)) T len ord k x.1 vt) : JPT (f_X12_positiveOf (d + 1)) T len ord (fun k p u => if T k = 40 then rd k p u else pCmp ord T r k p u) := by
  intro k p u x hp hk hx
  simp only at hx
  by_cases h40 : T k = 40
  · rw [if_pos h40] at hx
    exact hrd k p u x hp hk h40 hx
  rw [if_neg h40] at hx
  unfold pCmp at hx
  have hS := JP_S (ord := ord) hT hlen hr
  cases h1 : SUMr ord T r k p u with
  | inl j => rw [h1] at hx; cases hx
  | inr y =>
    rw [h1] at hx
    simp only at hx
    have g := GD_SUMr hT (ord := ord) r k p u hp hk
    rw [h1] at g
    obtain ⟨g1, g2, g3, g4, g5, g6⟩ := g
    cases ho : opC (T y.1) with
    | none => rw [ho] at hx; cases hx
    | some o =>
      rw [ho] at hx
      simp only at hx
      have hkl : y.1 < len := lt_of_T hT (t := T y.1) rfl (opC_ne ho)
      cases h2 : SUMr ord T r (y.1 + 1) y.2.1 (u + y.2.2.length) with
      | inl j => rw [h2] at hx; cases hx
      | inr z =>
        rw [h2] at hx
        cases hx
        have g' := GD_SUMr hT (ord := ord) r (y.1 + 1) y.2.1 (u + y.2.2.length) g4 hkl
        rw [h2] at g'
        obtain ⟨f1, f2, f3, f4, f5, f6⟩ := g'
        obtain ⟨v1, j1, r1⟩ := hS k p u y hp hk h1
        obtain ⟨v2, j2, r2⟩ := hS (y.1 + 1) y.2.1 (u + y.2.2.length) z g4 hkl h2
        have hoo : o = 8 ∨ o = 9 ∨ o = 10 := by
          rcases opC_or (T y.1) with ⟨_, e⟩ | ⟨_, e⟩ | ⟨_, e⟩ | ⟨_, _, _, e⟩ <;> rw [e] at ho <;> cases ho <;> omega
        refine ⟨_, ?_, TS_cmp hT hk hkl h40 ho j1.1 j2.1 r1 r2⟩
        intro C L W hC
        obtain ⟨c1, c2⟩ := hC.app
        obtain ⟨c3, c4⟩ := c1.app
        obtain ⟨c5, c6⟩ := c2.one
        rw [List.length_append, ← Nat.add_assoc] at c5 c6
        have := EVM_bin (j1.2 C L W c3) (j2.2 C L W c4) (by omega) c6 c5 (by omega)
        have e : (((v1 W).bind (fun a => (v2 W).bind (fun b => some (cmB o a b)))).map bi) = (v1 W).bind (fun a => (v2 W).bind (fun b => ap o a b)) := by
          cases v1 W with
          | none => rfl
          | some a =>
            cases v2 W with
            | none => rfl
            | some b => exact (ap_cm hoo a b).symm
        simp only
        rw [e, List.length_append, List.length_append, List.length_singleton, show z.2.1 - p = y.2.1 - p + (z.2.1 - y.2.1) by omega, ← Nat.add_assoc, ← Nat.add_assoc]
        exact this
theorem r_nots (hT : ∀ j, len ≤ j → T j = 256) {M : Mem} {B : Nat} {W : Nat → Int32} (hE : RE M T len ord B W) : ∀ n k (par : Bool) M1, 400 ≤ n + k → len ≤ 400 → k ≤ len → Fr Sgo M M1 → mI M1 47 26 = nI (B + k) → TT (loopO (σ := Mem × Int32) (ρ := Mem × Int32) (fun s1 => grd (okO s1.1 12 47) (Option.bind (f_X12_passes0 s1.1 47 6) (fun q10 => if q10.2 = 0 then (some (.inr (q10.1, s1.2))) else (bv (fun (s16 : Int32) => some (.inl (q10.1, s16))) (fun j15 => if s1.2 = 0 then (j15 1) else (j15 0)))))) (M1, b1 par)) (fun q => Fr Sgo M q.1 ∧ mI q.1 47 26 = nI (B + nots T n k) ∧ mI q.1 47 28 = mI M1 47 28 ∧ q.2 = b1 (par != decide ((nots T n k - k) % 2 = 1))) := by
  intro n
  induction n with
  | zero =>
    intro k par M1 hn hlen hk hF hgo
    have hE1 := hE.fr hF
    have hp := r_passes hT hE1 (c := 6) hk hgo (by omega)
    have hM := hE1.1
    unfold LayM at hM
    rw [hT k (by omega), if_neg (by decide)] at hp
    rw [loopO_eq]
    simp only [hM, grd_T, show (6 : Int32) = nI 6 from rfl, hp, Option.bind_some, bv, if_true]
    refine ⟨_, rfl, hF, hgo, rfl, ?_⟩
    rw [nots, Nat.sub_self]
    cases par <;> rfl
  | succ n ih =>
    intro k par M1 hn hlen hk hF hgo
    have hE1 := hE.fr hF
    have hp := r_passes hT hE1 (c := 6) hk hgo (by omega)
    have ec : rc (T k) = 6 ↔ T k = 265 := rc_tok (by omega) (by decide)
    have hM := hE1.1
    unfold LayM at hM
    rw [loopO_eq]
    simp only [hM, grd_T, show (6 : Int32) = nI 6 from rfl, hp, Option.bind_some, bv]
    rw [nots]
    by_cases h : T k = 265
    · have hkl := lt_of_T hT h (by decide)
      rw [if_pos (ec.mpr h), if_pos h]
      have hF1 : Fr Sgo M (wI M1 47 26 (nI (B + (k + 1)))) := hF.wI Sgo26
      have key := ih (k + 1) (!par) (wI M1 47 26 (nI (B + (k + 1)))) (by omega) hlen hkl hF1 mI_wIs
      have hnn := nots_le hT n (k + 1) hkl
      have fin : TT (loopO (σ := Mem × Int32) (ρ := Mem × Int32) (fun s1 => grd (okO s1.1 12 47) (Option.bind (f_X12_passes0 s1.1 47 6) (fun q10 => if q10.2 = 0 then (some (.inr (q10.1, s1.2))) else (bv (fun (s16 : Int32) => some (.inl (q10.1, s16))) (fun j15 => if s1.2 = 0 then (j15 1) else (j15 0)))))) (wI M1 47 26 (nI (B + (k + 1))), b1 (!par))) (fun q => Fr Sgo M q.1 ∧ mI q.1 47 26 = nI (B + nots T n (k + 1)) ∧ mI q.1 47 28 = mI M1 47 28 ∧ q.2 = b1 (par != decide ((nots T n (k + 1) - k) % 2 = 1))) := by
        refine key.mono ?_
        rintro q ⟨a1, a2, a3, a4⟩
        refine ⟨a1, a2, by rw [a3, mI_wI_ne (by decide)], ?_⟩
        rw [a4]
        congr 1
        have e : decide ((nots T n (k + 1) - k) % 2 = 1) = !decide ((nots T n (k + 1) - (k + 1)) % 2 = 1) := by
          by_cases q : (nots T n (k + 1) - (k + 1)) % 2 = 1
          · rw [decide_eq_true q, decide_eq_false (by omega)]; rfl
          · rw [decide_eq_false q, decide_eq_true (by omega)]; rfl
        rw [e]
        cases par <;> cases decide ((nots T n (k + 1) - (k + 1)) % 2 = 1) <;> rfl
      simp only [show ¬ (1 : Int32) = 0 by decide, if_false]
      cases par with
      | false =>
        rw [if_pos (show b1 false = 0 from rfl)]
        exact fin
      | true =>
        rw [if_neg (show ¬ b1 true = 0 by decide)]
        exact fin
    · rw [if_neg (fun w => h (ec.mp w)), if_neg h]
      simp only [if_true]
      refine ⟨_, rfl, hF, hgo, rfl, ?_⟩
      rw [Nat.sub_self]
      cases par <;> rfl
theorem JPT_plain (hT : ∀ j, len ≤ j → T j = 256) (hlen : len ≤ 400) {d r : Nat} {rd : PF3} (h : JPT (f_X12_positiveOf d) T len ord (fun k p u => if T k = 40 then rd k p u else pCmp ord T r k p u)) : JPT (f_X12_plainOf (d + 1)) T len ord (pPlain ord T rd r) := by
  intro k p u x hp hk hx
  unfold pPlain at hx
  have hn := nots_le hT 400 k hk
  cases hz : (if T (nots T 400 k) = 40 then rd (nots T 400 k) p u else pCmp ord T r (nots T 400 k) p u) with
  | inl j => rw [hz] at hx; cases hx
  | inr z =>
    rw [hz] at hx
    cases hx
    obtain ⟨vt, hj, hs⟩ := h (nots T 400 k) p u z hp hn.2 hz
    refine ⟨fun W => (vt W).map (fun b => b != decide ((nots T 400 k - k) % 2 = 1)), ?_, ?_⟩
    · intro C L W hC
      simp only at hC ⊢
      by_cases q : (nots T 400 k - k) % 2 = 1
      · rw [if_pos q] at hC ⊢
        rw [decide_eq_true q]
        obtain ⟨c1, c2⟩ := hC.app
        obtain ⟨c3, c4⟩ := c2.one
        have := EVM_not (hj C L W c1) (fun a ha => by
          obtain ⟨b, _, rfl⟩ := Option.map_eq_some_iff.mp ha
          cases b
          · exact Or.inl rfl
          · exact Or.inr rfl) c4 c3
        have e : ((vt W).map (fun b => b != true)).map bi = ((vt W).map bi).map (fun a => 1 - a) := by
          cases vt W with
          | none => rfl
          | some b => cases b <;> rfl
        rw [e, List.length_append, List.length_singleton, ← Nat.add_assoc]
        exact this
      · rw [if_neg q] at hC ⊢
        rw [decide_eq_false q]
        have e : ((vt W).map (fun b => b != false)) = vt W := by
          cases vt W with
          | none => rfl
          | some b => cases b <;> rfl
        rw [e]
        exact hj C L W hC
    · intro M B W hE hgo hb live
      show TT (b_X12_plainOf (f_X12_positiveOf d) M 47 (b1 live)) _
      unfold b_X12_plainOf
      rw [TT_bind]
      refine (r_nots hT hE 400 k false M (by omega) hlen hk Fr.rf hgo).mono ?_
      rintro ⟨M1, y⟩ ⟨a1, a2, a3, a4⟩
      simp only at a1 a2 a3 a4 ⊢
      have hE1 := hE.fr a1
      have hM := hE1.1
      unfold LayM at hM
      simp only [hM, grd_T]
      rw [TT_bind]
      refine (hs M1 B W hE1 a2 (by rw [a3]; exact hb) live).mono ?_
      rintro ⟨M2, y2⟩ ⟨c1, c2, ⟨w, hw⟩, c3⟩
      simp only at c1 c2 hw c3 ⊢
      rw [a3] at c3
      subst hw
      subst a4
      have fin : ∀ zz : Bool, zz = (w != decide ((nots T 400 k - k) % 2 = 1)) → TG M live B z.1 ((vt W).map (fun b => b != decide ((nots T 400 k - k) % 2 = 1))) (M2, b1 zz) := by
        rintro zz rfl
        refine ⟨a1.tr c1, c2, ⟨_, rfl⟩, ?_⟩
        split at c3
        · rename_i q
          rw [if_pos q]
          cases hv : vt W with
          | none => rw [hv] at c3; exact c3
          | some b =>
            rw [hv] at c3
            have e : w = b := by
              have := c3.1
              cases w <;> cases b <;> first | rfl | exact absurd this (by decide)
            rw [e]
            exact ⟨rfl, c3.2⟩
        · rename_i q
          rw [if_neg q]
          exact c3
      rw [TT_if, TT_some, TT_some]
      generalize decide ((nots T 400 k - k) % 2 = 1) = od at fin ⊢
      refine ⟨fun q => fin false ?_, fun q => fin true ?_⟩
      · cases w <;> cases od <;> first | rfl | exact absurd q (by decide)
      · cases w <;> cases od <;> first | rfl | exact absurd rfl q
theorem JPT_test_of (hT : ∀ j, len ≤ j → T j = 256) (hlen : len ≤ 400) {d : Nat} {f : PF3} (h : JPT (f_X12_plainOf d) T len ord f) (hg : GD len f) : JPT (f_X12_testOf (d + 2)) T len ord (pSeqJ T (pSeqJ T f 264 13) 263 12) := by
  have hbo : JPT (f_X12_bothOf (d + 1)) T len ord (pSeqJ T f 264 13) := JPT_seq hT hlen (by decide) (Or.inr ⟨rfl, rfl⟩) h hg (TS_and hT) (fun M live hM => bo_eq hM)
  exact JPT_seq hT hlen (by decide) (Or.inl ⟨rfl, rfl⟩) hbo (GD_seqJ hT hg (by decide)) (TS_or hT) (fun M live hM => te_eq hM)
theorem JPT_rd (hT : ∀ j, len ≤ j → T j = 256) {d : Nat} {inner : PF3} (h : JPT (f_X12_testOf d) T len ord inner) : ∀ k p u x, p ≤ 50 → k ≤ len → T k = 40 → pSq T 41 inner k p u = .inr x → ∃ vt, JT u p x.2.1 x.2.2 vt ∧ TSV (f_X12_positiveOf (d + 1)) T len ord k x.1 vt := by
  intro k p u x hp hk hTk hx
  have hkl : k < len := lt_of_T hT hTk (by decide)
  unfold pSq at hx
  cases hi : inner (k + 1) p u with
  | inl j => rw [hi] at hx; cases hx
  | inr y =>
    rw [hi] at hx
    simp only at hx
    by_cases hc : T y.1 = 41
    · rw [if_pos hc] at hx
      cases hx
      obtain ⟨val, h1, h2⟩ := h (k + 1) p u y hp hkl hi
      exact ⟨val, h1, TS_rd hT hkl hTk h2⟩
    · rw [if_neg hc] at hx
      cases hx
theorem JPT_TESTr (hT : ∀ j, len ≤ j → T j = 256) (hlen : len ≤ 400) : ∀ r d, r ≤ 8 → JPT (f_X12_testOf (4 * r + d + 4)) T len ord (TESTr ord T r)
  | 0, d, _ => by
    rw [show 4 * 0 + d + 4 = (d + 2) + 2 by omega]
    exact JPT_test_of hT hlen (JPT_plain hT hlen (JPT_pos hT hlen (by omega) (fun k p u x _ _ _ hx => by cases hx))) (GD_plain hT 0 (fun k p u hp hk _ => hk))
  | r + 1, d, hr => by
    rw [show 4 * (r + 1) + d + 4 = (4 * r + d + 4 + 2) + 2 by omega]
    exact JPT_test_of hT hlen (JPT_plain hT hlen (JPT_pos hT hlen hr (JPT_rd hT (JPT_TESTr hT hlen r d (by omega))))) (GD_plain hT (r + 1) (fun k p u hp hk e => GD_sq hT (by decide) (GD_TESTr hT r) (T0 := 40) (by decide) hp e))
theorem JPT_T (hT : ∀ j, len ≤ j → T j = 256) (hlen : len ≤ 400) : JPT (f_X12_testOf 100) T len ord (TESTr ord T 8) := by
  have := JPT_TESTr (ord := ord) hT hlen 8 64 (by omega)
  exact this
end
