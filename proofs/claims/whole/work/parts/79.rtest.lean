/-! TESTS: both machines tell the same -/
def bi (b : Bool) : Int := if b then 1 else 0
def TQ (M : Mem) (live : Bool) (v : Option Bool) (q : Mem × Int32) : Prop := (∃ b, q.2 = b1 b) ∧ if live = true ∧ mI M 47 28 = 0 then (match v with
  | some x => q.2 = b1 x ∧ mI q.1 47 28 = 0
  | none => mI q.1 47 28 = 1) else mI q.1 47 28 = mI M 47 28
def TG (M : Mem) (live : Bool) (B k : Nat) (v : Option Bool) (q : Mem × Int32) : Prop := Fr Sgo M q.1 ∧ mI q.1 47 26 = nI (B + k) ∧ TQ M live v q
def TSV (F : Mem → Nat → Int32 → Option (Mem × Int32)) (T : Nat → Nat) (len : Nat) (ord : Bool) (k k2 : Nat) (vt : (Nat → Int32) → Option Bool) : Prop := ∀ M B W, RE M T len ord B W → mI M 47 26 = nI (B + k) → (mI M 47 28 = 0 ∨ mI M 47 28 = 1) → ∀ live : Bool, TT (F M 47 (b1 live)) (TG M live B k2 (vt W))
def JT (u p0 p : Nat) (acc : List Nat) (vt : (Nat → Int32) → Option Bool) : Prop := ∀ C L W, CodeAt C L u acc → EVM C L (tI W) u (u + acc.length) (p - p0) ((vt W).map bi)
def JPT (F : Mem → Nat → Int32 → Option (Mem × Int32)) (T : Nat → Nat) (len : Nat) (ord : Bool) (f : PF3) : Prop := ∀ k p u x, p ≤ 50 → k ≤ len → f k p u = .inr x → ∃ vt, JT u p x.2.1 x.2.2 vt ∧ TSV F T len ord k x.1 vt
theorem TG.br {M : Mem} {live : Bool} {B k : Nat} {v : Option Bool} {q : Mem × Int32} (hb : mI M 47 28 = 0 ∨ mI M 47 28 = 1) (h : TG M live B k v q) : mI q.1 47 28 = 0 ∨ mI q.1 47 28 = 1 := by
  obtain ⟨-, -, -, c⟩ := h
  split at c
  · cases v with
    | none => exact Or.inr c
    | some a => exact Or.inl c.2
  · rw [c]; exact hb
theorem RG.br {M : Mem} {live : Bool} {B k : Nat} {v : Option Int} {q : Mem × Int64} (hb : mI M 47 28 = 0 ∨ mI M 47 28 = 1) (h : RG M live B k v q) : mI q.1 47 28 = 0 ∨ mI q.1 47 28 = 1 := by
  obtain ⟨-, -, c⟩ := h
  unfold RQ at c
  split at c
  · cases v with
    | none => exact Or.inr c.2
    | some a => exact Or.inl c.2
  · rw [c.2]; exact hb
section
variable {T : Nat → Nat} {len : Nat} {ord : Bool}
/-- a step of a row of tests -/
def TSTEP (bd : Bool → Mem × Int32 → Option ((Mem × Int32) ⊕ (Mem × Int32))) (F : Mem → Nat → Int32 → Option (Mem × Int32)) (tok : Nat) (stp : Bool) (T : Nat → Nat) (len : Nat) (ord : Bool) : Prop := ∀ M B W live k (v0 : Option Bool) s, RE M T len ord B W → (mI M 47 28 = 0 ∨ mI M 47 28 = 1) → k ≤ len → TG M live B k v0 s → (T k ≠ tok → bd live s = some (.inr s)) ∧ ∀ k2 vy, T k = tok → TSV F T len ord (k + 1) k2 vy → TT (bd live s) (fun r => ∃ s', r = .inl s' ∧ TG M live B k2 (v0.bind (fun a => if a = stp then some a else vy W)) s')
theorem JL_J (hT : ∀ j, len ≤ j → T j = 256) (hlen : len ≤ 400) {bd : Bool → Mem × Int32 → Option ((Mem × Int32) ⊕ (Mem × Int32))} {F : Mem → Nat → Int32 → Option (Mem × Int32)} {tok jop : Nat} {stp : Bool} (ho : tok ≠ 256) (hj : (jop = 12 ∧ stp = true) ∨ (jop = 13 ∧ stp = false)) {sub : PF3} (hs : JPT F T len ord sub) (hg : GD len sub) (hb : TSTEP bd F tok stp T len ord) {u p0 : Nat} : ∀ n k p acc x, 401 ≤ n + k → k ≤ len → p0 < p → p ≤ 50 → lpJ T sub tok jop u n k p acc = .inr x → ∀ val0, JT u p0 p acc val0 → ∃ val, JT u p0 x.2.1 x.2.2 val ∧ ∀ M B W live s, RE M T len ord B W → (mI M 47 28 = 0 ∨ mI M 47 28 = 1) → TG M live B k (val0 W) s → TT (loopO (bd live) s) (TG M live B x.1 (val W)) := by
  intro n
  induction n with
  | zero =>
    intro k p acc x hn hk hp hp5 hx val0 hv
    cases hx
    refine ⟨val0, hv, fun M B W live s hE hbr hR => ?_⟩
    obtain ⟨h1, -⟩ := hb M B W live k (val0 W) s hE hbr hk hR
    rw [loopO_eq, h1 (by rw [hT k (by omega)]; exact ho.symm)]
    exact ⟨s, rfl, hR⟩
  | succ n ih =>
    intro k p acc x hn hk hp hp5 hx val0 hv
    rw [lpJ] at hx
    by_cases hop : T k = tok
    · rw [if_pos hop] at hx
      have hkl : k < len := lt_of_T hT hop ho
      cases hsub : sub (k + 1) p (u + acc.length + 1) with
      | inl j =>
        rw [hsub] at hx
        cases hx
      | inr y =>
        rw [hsub] at hx
        simp only at hx
        have g := hg (k + 1) p (u + acc.length + 1) hp5 hkl
        rw [hsub] at g
        obtain ⟨g1, g2, g3, g4, g5, g6⟩ := g
        obtain ⟨valy, hvy, hry⟩ := hs (k + 1) p (u + acc.length + 1) y hp5 hkl hsub
        have hv1 : JT u p0 y.2.1 (acc ++ (16 * (u + acc.length + 1 + y.2.2.length) + jop) :: y.2.2) (fun W => (val0 W).bind (fun a => if a = stp then some a else valy W)) := by
          intro C L W hC
          obtain ⟨c1, c2⟩ := hC.app
          obtain ⟨c3, c4, c5⟩ := c2.cons
          have := EVM_jump (hv C L W c1) (hvy C L W c5) (by omega) c4 (by omega) (by omega) c3
          rw [List.length_append, List.length_cons, show y.2.1 - p0 = p - p0 + (y.2.1 - p) by omega, show u + (acc.length + (y.2.2.length + 1)) = u + acc.length + 1 + y.2.2.length by omega]
          have e : (((val0 W).bind (fun a => if a = stp then some a else valy W)).map bi) = ((val0 W).map bi).bind (fun a => if (a = 1 ↔ jop = 12) then some a else (valy W).map bi) := by
            cases val0 W with
            | none => rfl
            | some a =>
              show Option.map bi (if a = stp then some a else valy W) = (if (bi a = 1 ↔ jop = 12) then some (bi a) else (valy W).map bi)
              rcases hj with ⟨h1, h2⟩ | ⟨h1, h2⟩ <;> subst h1 <;> subst h2 <;> cases a <;> simp [bi]
          simp only
          rw [e]
          exact this
        obtain ⟨val, hv2, hl⟩ := ih y.1 y.2.1 _ x (by omega) g2 (by omega) g4 hx _ hv1
        refine ⟨val, hv2, fun M B W live s hE hbr hR => ?_⟩
        obtain ⟨-, h2⟩ := hb M B W live k (val0 W) s hE hbr hk hR
        obtain ⟨r, hr, s', rfl, hR'⟩ := h2 y.1 valy hop hry
        rw [loopO_eq, hr]
        exact hl M B W live s' hE hbr hR'
    · rw [if_neg hop] at hx
      cases hx
      refine ⟨val0, hv, fun M B W live s hE hbr hR => ?_⟩
      obtain ⟨h1, -⟩ := hb M B W live k (val0 W) s hE hbr hk hR
      rw [loopO_eq, h1 hop]
      exact ⟨s, rfl, hR⟩
theorem JPT_seq (hT : ∀ j, len ≤ j → T j = 256) (hlen : len ≤ 400) {bd : Bool → Mem × Int32 → Option ((Mem × Int32) ⊕ (Mem × Int32))} {F F2 : Mem → Nat → Int32 → Option (Mem × Int32)} {tok jop : Nat} {stp : Bool} (ho : tok ≠ 256) (hj : (jop = 12 ∧ stp = true) ∨ (jop = 13 ∧ stp = false)) {sub : PF3} (hs : JPT F T len ord sub) (hg : GD len sub) (hb : TSTEP bd F tok stp T len ord) (h2 : ∀ M live, LayM M → F2 M 47 (b1 live) = Option.bind (F M 47 (b1 live)) (fun q2 => Option.bind (loopO (bd live) (q2.1, q2.2)) (fun x => grd (bl x.2) (some (x.1, x.2))))) : JPT F2 T len ord (pSeqJ T sub tok jop) := by
  intro k p u x hp hk hx
  unfold pSeqJ at hx
  cases hsub : sub k p u with
  | inl j =>
    rw [hsub] at hx
    cases hx
  | inr y =>
    rw [hsub] at hx
    simp only at hx
    have g := hg k p u hp hk
    rw [hsub] at g
    obtain ⟨g1, g2, g3, g4, g5, g6⟩ := g
    obtain ⟨valy, hvy, hry⟩ := hs k p u y hp hk hsub
    obtain ⟨val, hv, hl⟩ := JL_J hT hlen ho hj hs hg hb 400 y.1 y.2.1 y.2.2 x (by omega) g2 g3 g4 hx valy hvy
    refine ⟨val, hv, fun M B W hE hgo hbr live => ?_⟩
    rw [h2 M live hE.1, TT_bind]
    refine (hry M B W hE hgo hbr live).mono ?_
    intro q hq
    rw [TT_bind]
    refine (hl M B W live q hE hbr hq).mono ?_
    intro q2 hq2
    obtain ⟨b, hbb⟩ := hq2.2.2.1
    rw [grd_y (by rw [hbb]; exact b1_bl b), TT_some]
    exact hq2
/-! a step of "or", of "and" -/
theorem rc_tok {k tok c : Nat} (hw : 258 ≤ tok ∧ tok < 284) (hc : rc tok = c) : rc (T k) = c ↔ T k = tok := by
  rw [← hc]
  exact rc_word hw
theorem jstep {M M1 M2 : Mem} {live lv2 stp : Bool} {B k k2 : Nat} {v0 vy : Option Bool} {v w b2 : Bool} (h1 : TG M live B k v0 (M1, b1 v)) {Mx : Mem} (hF : Fr Sgo M Mx) (hx : mI Mx 47 28 = mI M1 47 28) (hl : lv2 = (live && v != stp)) (h2 : TG Mx lv2 B k2 vy (M2, b1 w)) (hb2 : b2 = if v = stp then stp else w) : TG M live B k2 (v0.bind (fun a => if a = stp then some a else vy)) (M2, b1 b2) := by
  have n10 : ¬ (1 : Int32) = 0 := by decide
  obtain ⟨-, -, -, c1⟩ := h1
  obtain ⟨d1, d2, -, c2⟩ := h2
  refine ⟨hF.tr d1, d2, ⟨b2, rfl⟩, ?_⟩
  simp only at c1 c2 ⊢
  rw [hx] at c2
  by_cases w0 : live = true ∧ mI M 47 28 = 0
  · rw [if_pos w0] at c1 ⊢
    cases v0 with
    | none =>
      rw [if_neg (fun q => by rw [c1] at q; exact n10 q.2), c1] at c2
      exact c2
    | some a =>
      obtain ⟨e1, e2⟩ := c1
      have ea : v = a := by cases v <;> cases a <;> first | rfl | exact absurd e1 (by decide)
      subst ea
      show match (if v = stp then some v else vy) with
        | some x => b1 b2 = b1 x ∧ mI M2 47 28 = 0
        | none => mI M2 47 28 = 1
      by_cases q : v = stp
      · subst q
        rw [if_pos rfl] at hb2 ⊢
        subst hb2
        rw [if_neg (fun q => by rw [hl] at q; simp at q), e2] at c2
        exact ⟨rfl, c2⟩
      · rw [if_neg q] at hb2 ⊢
        subst hb2
        have e3 : lv2 = true := by rw [hl, w0.1]; simp [q]
        rw [if_pos ⟨e3, e2⟩] at c2
        exact c2
  · rw [if_neg w0] at c1 ⊢
    rw [if_neg (fun q => w0 ⟨by have := q.1; rw [hl] at this; simp at this; exact this.1, by rw [← c1]; exact q.2⟩), c1] at c2
    exact c2
noncomputable def teB (g_X12_bothOf : Mem → Nat → Int32 → Option (Mem × Int32)) (p1 : Int32) : Mem × Int32 → Option ((Mem × Int32) ⊕ (Mem × Int32)) := (fun s7 => Option.bind (f_X12_passes0 s7.1 47 4) (fun q16 => if q16.2 = 0 then (some (.inr (q16.1, s7.2))) else (bv (fun (s22 : Int32) => Option.bind (g_X12_bothOf q16.1 47 s22) (fun q25 => bv (fun (s31 : Int32) => some (.inl (q25.1, s31))) (fun j30 => bv (fun (s35 : Unit) => j30 1) (fun j34 => if s7.2 = 0 then (if q25.2 = 0 then (j30 0) else (j34 ())) else (j34 ()))))) (fun j21 => bv (fun (s39 : Unit) => j21 0) (fun j38 => if p1 = 0 then (j38 ()) else (if s7.2 = 0 then (j21 1) else (j38 ())))))))
noncomputable def boB (g_X12_plainOf : Mem → Nat → Int32 → Option (Mem × Int32)) (p1 : Int32) : Mem × Int32 → Option ((Mem × Int32) ⊕ (Mem × Int32)) := (fun s7 => Option.bind (f_X12_passes0 s7.1 47 5) (fun q16 => if q16.2 = 0 then (some (.inr (q16.1, s7.2))) else (bv (fun (s22 : Int32) => Option.bind (g_X12_plainOf q16.1 47 s22) (fun q25 => bv (fun (s31 : Int32) => some (.inl (q25.1, s31))) (fun j30 => bv (fun (s35 : Unit) => j30 0) (fun j34 => if s7.2 = 0 then (j34 ()) else (if q25.2 = 0 then (j34 ()) else (j30 1)))))) (fun j21 => bv (fun (s39 : Unit) => j21 0) (fun j38 => if p1 = 0 then (j38 ()) else (if s7.2 = 0 then (j38 ()) else (j21 1)))))))
theorem te_eq {g : Mem → Nat → Int32 → Option (Mem × Int32)} {M : Mem} {p : Int32} (hM : LayM M) : b_X12_testOf g M 47 p = Option.bind (g M 47 p) (fun q2 => Option.bind (loopO (teB g p) (q2.1, q2.2)) (fun x => grd (bl x.2) (some (x.1, x.2)))) := grd_y (by unfold LayM at hM; exact hM.1)
theorem bo_eq {g : Mem → Nat → Int32 → Option (Mem × Int32)} {M : Mem} {p : Int32} (hM : LayM M) : b_X12_bothOf g M 47 p = Option.bind (g M 47 p) (fun q2 => Option.bind (loopO (boB g p) (q2.1, q2.2)) (fun x => grd (bl x.2) (some (x.1, x.2)))) := grd_y (by unfold LayM at hM; exact hM.1)
theorem TS_or (hT : ∀ j, len ≤ j → T j = 256) {F : Mem → Nat → Int32 → Option (Mem × Int32)} : TSTEP (fun live => teB F (b1 live)) F 263 true T len ord := by
  intro M B W live k v0 s hE hb hk hR
  obtain ⟨M1, y⟩ := s
  have hR0 := hR
  obtain ⟨hF, hgo, ⟨v, hv⟩, -⟩ := hR
  simp only at hF hgo hv
  subst hv
  have hp := r_passes hT (hE.fr hF) (c := 4) hk hgo (by omega)
  have ec : rc (T k) = 4 ↔ T k = 263 := rc_tok (by omega) (by decide)
  refine ⟨fun h => ?_, fun k2 vy h hr => ?_⟩
  · rw [if_neg (fun w => h (ec.mp w))] at hp
    unfold teB
    simp only [show (4 : Int32) = nI 4 from rfl, hp, Option.bind_some, if_true]
  · rw [if_pos (ec.mpr h)] at hp
    have hF1 : Fr Sgo M (wI M1 47 26 (nI (B + (k + 1)))) := hF.wI Sgo26
    have hx28 : mI (wI M1 47 26 (nI (B + (k + 1)))) 47 28 = mI M1 47 28 := mI_wI_ne (by decide)
    have hb1 := hR0.br hb
    simp only at hb1
    have n10 : ¬ (1 : Int32) = 0 := by decide
    unfold teB
    simp only [show (4 : Int32) = nI 4 from rfl, hp, Option.bind_some, bv, n10, if_false]
    have fin : ∀ lv2 : Bool, lv2 = (live && v != true) → TT (Option.bind (F (wI M1 47 26 (nI (B + (k + 1)))) 47 (b1 lv2)) (fun q25 => if b1 v = 0 then (if q25.2 = 0 then (some (.inl (q25.1, 0)) : Option ((Mem × Int32) ⊕ (Mem × Int32))) else some (.inl (q25.1, 1))) else some (.inl (q25.1, 1)))) (fun r => ∃ s', r = .inl s' ∧ TG M live B k2 (v0.bind (fun a => if a = true then some a else vy W)) s') := by
      intro lv2 hl
      rw [TT_bind]
      refine (hr _ B W (hE.fr hF1) mI_wIs (by rw [hx28]; exact hb1) lv2).mono ?_
      rintro ⟨M2, w⟩ hq
      obtain ⟨-, -, ⟨w0, hw⟩, -⟩ := id hq
      simp only at hw
      subst hw
      have js := fun b2 hb2 => jstep (b2 := b2) hR0 hF1 hx28 hl hq hb2
      cases v with
      | true =>
        simp only [b1_t, n10, if_false]
        rw [TT_some]
        exact ⟨_, rfl, js true rfl⟩
      | false =>
        simp only [b1_f, if_true]
        cases w0 with
        | true =>
          simp only [b1_t, n10, if_false]
          rw [TT_some]
          exact ⟨_, rfl, js true rfl⟩
        | false =>
          simp only [b1_f, if_true]
          rw [TT_some]
          exact ⟨_, rfl, js false rfl⟩
    cases live with
    | false =>
      rw [if_pos (show b1 false = 0 from rfl)]
      exact fin false rfl
    | true =>
      rw [if_neg (show ¬ b1 true = 0 by decide)]
      cases v with
      | true =>
        rw [if_neg (show ¬ b1 true = 0 by decide)]
        exact fin false rfl
      | false =>
        rw [if_pos (show b1 false = 0 from rfl)]
        exact fin true rfl
theorem TS_and (hT : ∀ j, len ≤ j → T j = 256) {F : Mem → Nat → Int32 → Option (Mem × Int32)} : TSTEP (fun live => boB F (b1 live)) F 264 false T len ord := by
  intro M B W live k v0 s hE hb hk hR
  obtain ⟨M1, y⟩ := s
  have hR0 := hR
  obtain ⟨hF, hgo, ⟨v, hv⟩, -⟩ := hR
  simp only at hF hgo hv
  subst hv
  have hp := r_passes hT (hE.fr hF) (c := 5) hk hgo (by omega)
  have ec : rc (T k) = 5 ↔ T k = 264 := rc_tok (by omega) (by decide)
  refine ⟨fun h => ?_, fun k2 vy h hr => ?_⟩
  · rw [if_neg (fun w => h (ec.mp w))] at hp
    unfold boB
    simp only [show (5 : Int32) = nI 5 from rfl, hp, Option.bind_some, if_true]
  · rw [if_pos (ec.mpr h)] at hp
    have hF1 : Fr Sgo M (wI M1 47 26 (nI (B + (k + 1)))) := hF.wI Sgo26
    have hx28 : mI (wI M1 47 26 (nI (B + (k + 1)))) 47 28 = mI M1 47 28 := mI_wI_ne (by decide)
    have hb1 := hR0.br hb
    simp only at hb1
    have n10 : ¬ (1 : Int32) = 0 := by decide
    unfold boB
    simp only [show (5 : Int32) = nI 5 from rfl, hp, Option.bind_some, bv, n10, if_false]
    have fin : ∀ lv2 : Bool, lv2 = (live && v != false) → TT (Option.bind (F (wI M1 47 26 (nI (B + (k + 1)))) 47 (b1 lv2)) (fun q25 => if b1 v = 0 then (some (.inl (q25.1, 0)) : Option ((Mem × Int32) ⊕ (Mem × Int32))) else if q25.2 = 0 then some (.inl (q25.1, 0)) else some (.inl (q25.1, 1)))) (fun r => ∃ s', r = .inl s' ∧ TG M live B k2 (v0.bind (fun a => if a = false then some a else vy W)) s') := by
      intro lv2 hl
      rw [TT_bind]
      refine (hr _ B W (hE.fr hF1) mI_wIs (by rw [hx28]; exact hb1) lv2).mono ?_
      rintro ⟨M2, w⟩ hq
      obtain ⟨-, -, ⟨w0, hw⟩, -⟩ := id hq
      simp only at hw
      subst hw
      have js := fun b2 hb2 => jstep (b2 := b2) hR0 hF1 hx28 hl hq hb2
      cases v with
      | false =>
        simp only [b1_f, if_true]
        rw [TT_some]
        exact ⟨_, rfl, js false rfl⟩
      | true =>
        simp only [b1_t, n10, if_false]
        cases w0 with
        | true =>
          simp only [b1_t, n10, if_false]
          rw [TT_some]
          exact ⟨_, rfl, js true rfl⟩
        | false =>
          simp only [b1_f, if_true]
          rw [TT_some]
          exact ⟨_, rfl, js false rfl⟩
    cases live with
    | false =>
      rw [if_pos (show b1 false = 0 from rfl)]
      exact fin false rfl
    | true =>
      rw [if_neg (show ¬ b1 true = 0 by decide)]
      cases v with
      | true =>
        rw [if_neg (show ¬ b1 true = 0 by decide)]
        exact fin true rfl
      | false =>
        rw [if_pos (show b1 false = 0 from rfl)]
        exact fin false rfl
end
