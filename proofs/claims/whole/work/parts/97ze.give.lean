/-! being born, as a function of the state -/
/-- the rules of class and reference agree (HOUSES and YEAR may not) -/
def RUL (M : Mem) : Prop := LayC M ∧ LayM M ∧ KTH (mI M 49) ∧ KLW (mI M 49) ∧ CVt M 2 3 4 (mI M 49) ∧ mI M 1 9 = mI M 49 57 ∧ mI M 1 10 = mI M 49 58 ∧ mI M 1 12 = mI M 49 55 ∧ 78 ≤ mn M ∧ LWS M 9 (mI M 49)
def Frr (a k : Nat) : Prop := (a = 1 ∧ (k = 9 ∨ k = 10 ∨ k = 12)) ∨ (2 ≤ a ∧ a ≤ 4) ∨ a = 49
theorem MID.rul {M : Mem} (h : MID M) : RUL M := ⟨h.1.1, h.1.2.1, h.1.2.2.1.1, h.1.2.2.1.2.2.1, h.1.2.2.2.1.1, h.1.2.2.2.1.2.1.2.1, h.1.2.2.2.1.2.1.2.2.1, h.1.2.2.2.1.2.1.2.2.2.2, h.2.1, h.2.2⟩
theorem RUL.fw {S R : Nat → Nat → Prop} {M M1 : Mem} (h : RUL M) (hF : Fw S R M M1) (hs : ∀ a k, S a k → ¬ Frr a k ∧ ¬ HT M a) (hr : ∀ a k, R a k → oldR a k = false ∧ a ≠ 9 ∧ (78 ≤ a → mK M a ≠ 9)) : RUL M1 ∧ mI M1 49 = mI M 49 := by
  obtain ⟨hC, hM, kt, kl, vt, o9, o10, o12, h78, hL⟩ := h
  have e : ∀ a k, a < 78 → Frr a k → mI M1 a k = mI M a k := fun a k w1 w2 => hF.i (by omega) (fun q => (hs _ _ q).1 w2)
  have e49 : mI M1 49 = mI M 49 := funext (fun k => e 49 k (by decide) (by unfold Frr; omega))
  have hR : ∀ a k, oldR a k = true → ¬ R a k := fun a k w q => by rw [(hr _ _ q).1] at w; cases w
  refine ⟨⟨hC.fw h78 hF hR, hM.fw h78 hF hR, by rw [e49]; exact kt, by rw [e49]; exact kl, fun t ht => ?_, ?_, ?_, ?_, by have := hF.1; omega, ?_⟩, e49⟩
  · rw [e49, e 2 t (by decide) (by unfold Frr; omega), e 3 t (by decide) (by unfold Frr; omega), e 4 t (by decide) (by unfold Frr; omega)]
    exact vt t ht
  · rw [e49, e 1 9 (by decide) (by unfold Frr; omega)]
    exact o9
  · rw [e49, e 1 10 (by decide) (by unfold Frr; omega)]
    exact o10
  · rw [e49, e 1 12 (by decide) (by unfold Frr; omega)]
    exact o12
  · rw [e49]
    exact hL.fw (by omega) hF (fun a k q => (hs a k q).2) (fun a k q => (hr a k q).2) (fun _ _ _ _ _ _ => rfl)
theorem RUL.fr {S : Nat → Nat → Prop} {M M1 : Mem} (h : RUL M) (hF : Fr S M M1) (hs : ∀ a k, S a k → a < 78 ∧ ¬ Frr a k) : RUL M1 ∧ mI M1 49 = mI M 49 := h.fw (hF.fw (R := fun _ _ => False)) (fun a k w => ⟨(hs a k w).2, fun q => by have := q.1; have := (hs a k w).1; omega⟩) (fun _ _ w => w.elim)
theorem RUL.gs {M : Mem} (h : RUL M) : KGS M (gtK (mI M 49)) (sdK (mI M 49)) ∧ STd M (sdK (mI M 49)) ∧ TSp (mI M 49) (lwK (mI M 49)) := by
  obtain ⟨hC, hM, kt, kl, vt, o9, o10, o12, h78, hL⟩ := h
  obtain ⟨o, ho⟩ := hL.has kl
  refine ⟨fun t ht => ⟨(gtK_v kt ht).1, (sdK_v kt ht).1, fun u q => ((sdK_v kt ht).2 u q).1⟩, fun t ht => ⟨?_, fun u q => ((sdK_v kt ht).2 u q).1⟩, TSp_K ho⟩
  rw [(vt t ht).2.2]
  exact (sdK_v kt ht).1
def KV (M : Mem) (K : Nat → Int32) (k : Nat) : Int32 := if k = 54 then mI M 1 11 else if k = 56 then mI M 1 8 else K k
theorem ru_open {B y : Nat} {M : Mem} (h : RUL M) (hS : SCI B M) (hB : B < 16777000) (hy : y ≤ 999) : TT (f_X8_open M 21 (nI y)) (fun M1 => RUL M1 ∧ OPN (B + 1) y M1 ∧ mI M1 49 = mI M 49 ∧ Fw Sop Rop M M1 ∧ mn M1 = mn M ∧ mz M1 = mz M) := by
  suffices hh : TT (f_X8_open M 21 (nI y)) (fun M1 => OPN (B + 1) y M1 ∧ Fw Sop Rop M M1 ∧ mn M1 = mn M ∧ mz M1 = mz M) by
    refine hh.mono ?_
    rintro M1 ⟨a1, a2, a3, a4⟩
    obtain ⟨b1', b2⟩ := h.fw a2 (fun a k w => ⟨by unfold Sop at w; unfold Frr; omega, fun q => by have := q.1; unfold Sop at w; omega⟩) (fun a k w => ⟨(rop_old a k w).1, (rop_old a k w).2.1, fun q => by unfold Rop at w; omega⟩)
    exact ⟨b1', a1, b2, a2, a3, a4⟩
  obtain ⟨hC, hM, kt, kl, vt, o9, o10, o12, h78, hL⟩ := h
  obtain ⟨tn, r, ru, y0, s1, s2, s3, s4, s5, s6, s7, s8, s9, s10, s11⟩ := hS
  have hO : CVo M 1 (KV M (mI M 49)) := ⟨rfl, o9, o10, rfl, o12⟩
  have kl' : KLW (KV M (mI M 49)) := kl
  have hE : TT (opE M (nI y)) (fun M1 => OPN (B + 1) y M1 ∧ Fw Sop Rop M M1 ∧ mn M1 = mn M ∧ mz M1 = mz M) := by
    rw [opE_eq hC hO kl', show KV M (mI M 49) 58 = mI M 49 58 from rfl, TT_some, s2, s5, nsucc]
    have hF := OPM_fw (M := M) (q := if mI M 49 58 = -1 then none else mR M 9 (mI M 49 58).toNatClampNeg) (v5 := nI ru) (p1 := nI y) (v4 := nI (tn + 1))
    have hn := OPM_n (M := M) (q := if mI M 49 58 = -1 then none else mR M 9 (mI M 49 58).toNatClampNeg) (v5 := nI ru) (p1 := nI y) (v4 := nI (tn + 1))
    obtain ⟨v1, v2, v3, v4⟩ := OPM_v (M := M) (q := if mI M 49 58 = -1 then none else mR M 9 (mI M 49 58).toNatClampNeg) (v5 := nI ru) (p1 := nI y) (v4 := nI (tn + 1))
    generalize OPM M (if mI M 49 58 = -1 then none else mR M 9 (mI M 49 58).toNatClampNeg) (nI ru) (nI y) (nI (tn + 1)) = M1 at *
    refine ⟨?_, hF, hn.1, hn.2⟩
    have e : ∀ a k, a < 78 → a ≠ 21 → mI M1 a k = mI M a k := fun a k ha hne => hF.i (by omega) (fun q => hne q.1)
    have e49 : mI M1 49 = mI M 49 := funext (fun k => e 49 k (by decide) (by decide))
    have g1 : ∀ t, t < 6 → mI M1 2 t = mI M 49 t ∧ (mI M1 3 t = 0 ↔ gtK (mI M 49) t = false) := fun t ht => by
      rw [e 2 t (by decide) (by decide), e 3 t (by decide) (by decide), (vt t ht).2.1]
      exact ⟨(vt t ht).1, (gtK_v kt ht).2⟩
    have g2 : ∀ k, mI M1 25 k = mI M 25 k := fun k => e 25 k (by decide) (by decide)
    have mk : ∀ o, LAWF (mI M 49) o → SCV o (mI M 49) y (gtK (mI M 49)) (tn + 1) M1 → OPN (B + 1) y M1 := fun o q1 q2 => ⟨tn + 1, o, ru, y, by omega, v2, by rw [e 1 13 (by decide) (by decide)]; exact s5, s7, v3, hy, by rw [e49]; exact q1, by rw [e49]; exact q2⟩
    have hc : CLB M1 (tn + 1) := fun s t p n h h1 h2 h3 h4 h5 => by
      obtain ⟨v, a1, a2, a3⟩ := s3 s t p n h h1 h2 h3 h4 h5
      exact ⟨v, by rw [g2]; exact a1, a2, by omega⟩
    rcases hL.lawf kl with ⟨q1, q2⟩ | ⟨f, tx, sms, q1, q2, q3, q4, q5⟩
    · refine mk none q2 ⟨by rw [v4, if_pos q1], fun t ht => (g1 t ht).2, v1, hc⟩
    · rw [if_neg (by rw [q2]; exact neg1_nI (by omega)), q2, nclampI (by omega), q3] at v4
      obtain ⟨t1, t2, t3⟩ := q4.ht
      refine mk (some sms) q5 ⟨tx, y, v4, q4.fw hF (fun k => ⟨fun q => ?_, fun q => ?_, fun q => ?_⟩) (fun k q => ?_), v1, v3, hy, g1, ?_, fun s t p n h h1 h2 h3 h4 h5 => ?_, Or.inl rfl⟩
      · have := q.1; have := t1.1; omega
      · have := q.1; have := t2.1; omega
      · have := q.1; have := t3.1; omega
      · have := q.1; have := t1.1; omega
      · rw [e 1 12 (by decide) (by decide)]
        exact o12
      · obtain ⟨v, a1, a2, a3⟩ := s3 s t p n h h1 h2 h3 h4 h5
        exact ⟨v, by rw [g2]; exact a1, a2, by omega, fun q => by omega⟩
  have hJ : ∀ s3' : Int32, (s3' ≠ 0 → r = ru → ∀ o, SCV o (mI M 49) y0 (gtK (mI M 49)) tn M → SCV o (mI M 49) y (gtK (mI M 49)) tn M) → TT (opJ M (nI y) s3') (fun M1 => OPN (B + 1) y M1 ∧ Fw Sop Rop M M1 ∧ mn M1 = mn M ∧ mz M1 = mz M) := by
    intro s3' hh
    have hC' := hC
    unfold LayC at hC'
    unfold opJ
    simp only [hC', grd_T, Option.bind_some]
    rw [s4, s5]
    by_cases w : r = ru
    · rw [if_pos (by rw [w])]
      by_cases w2 : s3' = 0
      · rw [if_pos w2]
        exact hE
      · rw [if_neg w2, TT_some]
        obtain ⟨o, o1, o2⟩ := s11 w
        exact ⟨⟨tn, o, ru, y0, by omega, by rw [s4, w], s5, s7, s8, s9, o1, hh w2 w o o2⟩, Fw.rf, rfl, rfl⟩
    · rw [if_neg (fun q => w ((neqI (by omega) (by omega)).mp q))]
      exact hE
  have y0k : okO M 8 21 := by
    unfold LayC at hC
    simp only [hC]
  rw [open_eq, grd_y y0k, s8]
  by_cases w : y0 = y
  · subst w
    rw [if_pos rfl]
    exact hJ 1 (fun _ _ o q => q)
  · rw [if_neg (fun q => w ((neqI (by omega) (by omega)).mp q))]
    cases h3 : mR M 21 3 with
    | none =>
      show TT (opJ M (nI y) 1) _
      refine hJ 1 (fun _ _ o q => ?_)
      cases o with
      | none => exact q
      | some sms =>
        obtain ⟨tx, y1, b1', _⟩ := q
        rw [h3] at b1'
        cases b1'
    | some tx =>
      show TT (Option.bind (some tx) (fun r40 => grd (okO M 9 r40) (if (mI M r40 4) = 0 then (opJ M (nI y) 1) else (opJ M (nI y) 0)))) _
      rw [Option.bind_some, grd_y (s10 tx h3)]
      by_cases w4 : mI M tx 4 = 0
      · rw [if_pos w4]
        refine hJ 1 (fun _ _ o q => ?_)
        cases o with
        | none => exact q
        | some sms =>
          obtain ⟨tx', y1, b1', b2, b3, b4, b9, b5, b6, b7, b8⟩ := q
          rw [h3] at b1'
          cases b1'
          obtain ⟨cls, C, L, c1, c2, c3, c4, c5⟩ := b2
          exact ⟨tx, y1, h3, ⟨cls, C, L, c1, c2, c3, c4, c5⟩, b3, b4, b9, b5, b6, b7, Or.inr (c5 w4)⟩
      · rw [if_neg w4]
        exact hJ 0 (fun q => absurd rfl q)
theorem ru_makes {B y : Nat} {M : Mem} (h : RUL M) (hO : OPN B y M) (hB : B < 16777216) {l : List Nat} (hl : DL l) (hP : PLT M l) {s p t : Nat} (hs : s < 5) (hp : p < 6) (ht : t < 6) : TT (f_X1_makes M 26 (nI s) (nI p) (nI t)) (fun q => RUL q.1 ∧ OPN B y q.1 ∧ mI q.1 49 = mI M 49 ∧ Fr Scm M q.1 ∧ mkR (cmk (gtK (mI M 49)) (sdK (mI M 49)) (lwK (mI M 49) y) l s p t) q) := by
  obtain ⟨g1, g2, g3⟩ := h.gs
  obtain ⟨SC, c1, c2, c3⟩ := hO.run h.2.1 hB
  refine (p_cmakes c2 h.1 c1 hl hP g2 hs hp ht).mono ?_
  rintro q ⟨a1, a2, a3, a4⟩
  obtain ⟨b1', b2⟩ := h.fr a1 (fun a k w => by unfold Scm Ssc at w; unfold Frr; omega)
  exact ⟨b1', c3 Scm q.1 a1 (fun a k w => by unfold Scm Ssc at w; omega) a2, b2, a1, a4⟩
/-- HOUSES and the YEAR in the class, in a kept row -/
def CST (M : Mem) (A : List (Option Nat × Nat × List Nat)) (y : Nat) : Prop := A.length ≤ 12 ∧ mI M 1 8 = nI A.length ∧ mI M 1 11 = nI y ∧ y ≤ 999 ∧ ∀ h e, A[h]? = some e → (∀ m, e.1 = some m → m < h) ∧ e.2.1 ≤ 999 ∧ DL e.2.2 ∧ mI M 5 h = oI e.1 ∧ mI M 6 h = nI e.2.1 ∧ mI M 7 h = nI (rank e.2.2) ∧ mI M 8 h = nI (tst e.2.2)
def KST (K : Nat → Int32) (A : List (Option Nat × Nat × List Nat)) (y : Nat) : Prop := A.length ≤ 12 ∧ K 56 = nI A.length ∧ K 54 = nI y ∧ y ≤ 999 ∧ ∀ h e, A[h]? = some e → (∀ m, e.1 = some m → m < h) ∧ e.2.1 ≤ 999 ∧ DL e.2.2 ∧ K (18 + 3 * h) = oI e.1 ∧ K (19 + 3 * h) = nI e.2.1 ∧ K (20 + 3 * h) = nI (num e.2.2)
/-- what becomes of a birth: why not, or the new DISH -/
noncomputable def gbC (K : Nat → Int32) (A : List (Option Nat × Nat × List Nat)) (y : Nat) (e : Option Nat × Nat × List Nat) (s p t : Nat) : Nat ⊕ List Nat := if y < e.2.1 then .inl 3 else match cmk (gtK K) (sdK K) (lwK K y) e.2.2 s p t with
  | none => .inl 3
  | some c => if A.length = 12 then .inl 5 else .inr c.1
noncomputable def gbO (K : Nat → Int32) (A : List (Option Nat × Nat × List Nat)) (y : Nat) (p1 p2 p3 p4 : Int32) : Nat ⊕ List Nat := if (0 ≤ p2 ∧ p2 ≤ 4) ∧ (0 ≤ p3 ∧ p3 ≤ 5) ∧ (p2 = 1 → 0 ≤ p4 ∧ p4 ≤ 5) then (if 0 ≤ p1 ∧ p1 < nI A.length then gbC K A y (A.getD p1.toNatClampNeg (none, 0, [])) p2.toNatClampNeg p3.toNatClampNeg (if p2 = 1 then p4.toNatClampNeg else 0) else .inl 2) else .inl 1
