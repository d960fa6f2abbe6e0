/-! what a LAW tells -/
abbrev SM : Type := Bool × ((Nat → Int32) → Option Bool) × ((Nat → Int32) → Option Int)
/-- a CLAUSE of the class's text tells that -/
def SMC (C : Nat → Nat) (L : Nat) (cl : CL) (s : SM) : Prop := cl.1 = (if s.1 then 1 else 0) ∧ (∀ t, cl.2.2.1 = some t → t < 1000 ∧ ∀ W, RUN C L (tI W) t [] ((s.2.1 W).map bi)) ∧ (cl.2.2.1 = none → ∀ W, s.2.1 W = some true) ∧ (s.1 = false → ∃ u, cl.2.2.2.1 = some u ∧ u < 1000 ∧ VB s.2.2 ∧ ∀ W, RUN C L (tI W) u [] (s.2.2 W))
/-- "if" of the reference, or nothing -/
def RCO (T : Nat → Nat) (len : Nat) (ord : Bool) (k k2 : Nat) (tv : (Nat → Int32) → Option Bool) : Prop := (T k ≠ 262 ∧ k2 = k ∧ ∀ W, tv W = some true) ∨ (T k = 262 ∧ TSV (f_X12_testOf 100) T len ord (k + 1) k2 tv)
def RCL (T : Nat → Nat) (len k k2 : Nat) (s : SM) : Prop := k < k2 ∧ k2 ≤ len ∧ ((s.1 = false ∧ T k = 258 ∧ VB s.2.2 ∧ ∃ k1, k1 ≤ len ∧ RSV (f_X12_sumOf 100) T len false (k + 1) k1 s.2.2 ∧ RCO T len false k1 k2 s.2.1) ∨ (s.1 = true ∧ T k = 259 ∧ RCO T len false (k + 1) k2 s.2.1))
def RTX (T : Nat → Nat) (len : Nat) : Nat → List SM → Prop
  | _, [] => False
  | k, s :: r => ∃ k2, RCL T len k k2 s ∧ ((T k2 = 256 ∧ r = []) ∨ (T k2 = 59 ∧ RTX T len (k2 + 1) r))
section
variable {T : Nat → Nat} {len : Nat} {ord : Bool}
theorem sem_SF (hT : ∀ j, len ≤ j → T j = 256) (hlen : len ≤ 400) {k p u : Nat} {x : Nat × Nat × List Nat} (hp : p ≤ 50) (hk : k ≤ len) (hx : pSF ord T k p u = .inr x) : ∃ val, VB val ∧ (∀ C L W, CodeAt C L u x.2.2 → RUN C L (tI W) u [] (val W)) ∧ RSV (f_X12_sumOf 100) T len ord k x.1 val := by
  have gg := GD_SUMr hT (ord := ord) 8 k p u hp hk
  unfold pSF at hx
  cases hs : SUMr ord T 8 k p u with
  | inl j => rw [hs] at hx; cases hx
  | inr y =>
    rw [hs] at hx gg
    cases hx
    obtain ⟨g1, g2, g3, g4, g5, g6⟩ := gg
    obtain ⟨val, hj, hr⟩ := JP_S (ord := ord) hT hlen (r := 8) (by omega) k p u y hp hk hs
    refine ⟨val, hj.1, fun C L W hC => ?_, hr⟩
    obtain ⟨c1, c2⟩ := hC.app
    obtain ⟨c3, c4⟩ := c2.one
    exact EVM_stop (hj.2 C L W c1) (by omega) c4 c3
theorem sem_Co (hT : ∀ j, len ≤ j → T j = 256) (hlen : len ≤ 400) {k p u : Nat} {y : Nat × Nat × List Nat × Option Nat} (hp : p ≤ 50) (hk : k ≤ len) (hx : pCo ord T k p u = .inr y) : ∃ tv, RCO T len ord k y.1 tv ∧ (y.2.2.2 = none → ∀ W, tv W = some true) ∧ ∀ t, y.2.2.2 = some t → t = u ∧ ∀ C L W, CodeAt C L u y.2.2.1 → RUN C L (tI W) u [] ((tv W).map bi) := by
  unfold pCo at hx
  by_cases q : T k = 262
  · have hkl := lt_of_T hT q (by decide)
    rw [if_pos q] at hx
    have gg := GD_TESTr hT (ord := ord) 8 (k + 1) p u hp hkl
    cases hs : TESTr ord T 8 (k + 1) p u with
    | inl j => rw [hs] at hx; cases hx
    | inr z =>
      rw [hs] at hx gg
      cases hx
      obtain ⟨g1, g2, g3, g4, g5, g6⟩ := gg
      obtain ⟨tv, hj, hr⟩ := JPT_T (ord := ord) hT hlen (k + 1) p u z hp hkl hs
      refine ⟨tv, Or.inr ⟨q, hr⟩, fun e => (by cases e), fun t e => ?_⟩
      cases e
      refine ⟨rfl, fun C L W hC => ?_⟩
      obtain ⟨c1, c2⟩ := hC.app
      obtain ⟨c3, c4⟩ := c2.one
      exact EVM_stop (hj C L W c1) (by omega) c4 c3
  · rw [if_neg q] at hx
    cases hx
    exact ⟨fun _ => some true, Or.inl ⟨q, rfl, fun _ => rfl⟩, fun _ _ => rfl, fun t e => by cases e⟩
theorem sem_Law (hT : ∀ j, len ≤ j → T j = 256) (hlen : len ≤ 400) {k p u : Nat} {x : Nat × Nat × List Nat × CL} (hp : p ≤ 50) (hk : k ≤ len) (hu : u ≤ k) (hx : pLaw false T k p u = .inr x) : ∃ s : SM, RCL T len k x.1 s ∧ ∀ C L, CodeAt C L u x.2.2.1 → SMC C L x.2.2.2 s := by
  have gL := G_Law hT (ord := false) hp hk hu
  rw [hx] at gL
  unfold pLaw at hx
  by_cases q1 : T k = 258
  · have hkl := lt_of_T hT q1 (by decide)
    rw [if_pos q1] at hx
    have gg := G_SF hT (ord := false) (u := u) hp hkl (by omega)
    cases hs : pSF false T (k + 1) p u with
    | inl j => rw [hs] at hx; cases hx
    | inr y =>
      rw [hs] at hx gg
      obtain ⟨g1, g2, g3, g4, g5⟩ := gg
      simp only at hx
      cases hc : pCo false T y.1 y.2.1 (u + y.2.2.length) with
      | inl j => rw [hc] at hx; cases hx
      | inr z =>
        rw [hc] at hx
        cases hx
        obtain ⟨val, v1, v2, v3⟩ := sem_SF (ord := false) hT hlen hp hkl hs
        obtain ⟨tv, t1, t2, t3⟩ := sem_Co (ord := false) hT hlen g4 g2 hc
        refine ⟨(false, tv, val), ⟨gL.1, gL.2.1, Or.inl ⟨rfl, q1, v1, y.1, g2, v3, t1⟩⟩, fun C L hC => ?_⟩
        obtain ⟨c1, c2⟩ := hC.app
        refine ⟨rfl, fun t ht => ?_, t2, fun _ => ⟨u, rfl, by omega, v1, fun W => v2 C L W c1⟩⟩
        obtain ⟨e1, e2⟩ := t3 t ht
        subst e1
        exact ⟨by omega, fun W => e2 C L W c2⟩
  rw [if_neg q1] at hx
  by_cases q2 : T k = 259
  · have hkl := lt_of_T hT q2 (by decide)
    rw [if_pos q2] at hx
    cases hc : pCo false T (k + 1) p u with
    | inl j => rw [hc] at hx; cases hx
    | inr z =>
      rw [hc] at hx
      cases hx
      obtain ⟨tv, t1, t2, t3⟩ := sem_Co (ord := false) hT hlen hp hkl hc
      refine ⟨(true, tv, fun _ => none), ⟨gL.1, gL.2.1, Or.inr ⟨rfl, q2, t1⟩⟩, fun C L hC => ?_⟩
      refine ⟨rfl, fun t ht => ?_, t2, fun e => by cases e⟩
      obtain ⟨e1, e2⟩ := t3 t ht
      subst e1
      exact ⟨by omega, fun W => e2 C L W hC⟩
  · rw [if_neg q2] at hx
    cases hx
/-- all clauses of a text tell what they tell -/
def SMS (C : Nat → Nat) (L : Nat) (cls : List CL) (sms : List SM) : Prop := sms.length = cls.length ∧ ∀ (i : Nat) (cl : CL) (s : SM), cls[i]? = some cl → sms[i]? = some s → SMC C L cl s
theorem sem_Rd (hT : ∀ j, len ≤ j → T j = 256) (hlen : len ≤ 400) : ∀ n k p u x, p ≤ 50 → k ≤ len → u ≤ k → pRd false T n k p u = .inr x → ∃ sms : List SM, RTX T len k sms ∧ sms.length = x.1.length ∧ ∀ C L, CodeAt C L u x.2 → SMS C L x.1 sms := by
  intro n
  induction n with
  | zero => intro k p u x _ _ _ h; cases h
  | succ n ih =>
    intro k p u x hp hk hu hx
    rw [pRd] at hx
    have gc := G_Cl hT (ord := false) (u := u) hp hk hu
    cases hc : pCl false T k p u with
    | inl j => rw [hc] at hx; cases hx
    | inr c =>
      rw [hc] at hx gc
      obtain ⟨g1, g2, g3, g4, g5⟩ := gc
      have hcl : pLaw false T k p u = .inr c := by
        unfold pCl at hc
        exact hc
      obtain ⟨s, s1, s2⟩ := sem_Law hT hlen hp hk hu hcl
      simp only at hx
      by_cases q1 : T c.1 = 256
      · rw [if_pos q1] at hx
        cases hx
        refine ⟨[s], ⟨c.1, s1, Or.inl ⟨q1, rfl⟩⟩, rfl, fun C L hC => ⟨rfl, fun i cl s' h1 h2 => ?_⟩⟩
        have hi : i < 1 := (List.getElem?_eq_some_iff.mp h1).1
        obtain rfl : i = 0 := by omega
        cases h1
        cases h2
        exact s2 C L hC
      · rw [if_neg q1] at hx
        by_cases q2 : T c.1 = 59
        · rw [if_pos q2] at hx
          have hxl := lt_of_T hT q2 (by decide)
          cases hr : pRd false T n (c.1 + 1) c.2.1 (u + c.2.2.1.length) with
          | inl j => rw [hr] at hx; cases hx
          | inr r =>
            rw [hr] at hx
            cases hx
            obtain ⟨sms, t1, t2, t3⟩ := ih (c.1 + 1) c.2.1 (u + c.2.2.1.length) r g4 hxl (by omega) hr
            refine ⟨s :: sms, ⟨c.1, s1, Or.inr ⟨q2, t1⟩⟩, by simp only [List.length_cons]; omega, fun C L hC => ?_⟩
            obtain ⟨c1, c2⟩ := hC.app
            obtain ⟨u1, u2⟩ := t3 C L c2
            refine ⟨by simp only [List.length_cons]; omega, fun i cl s' h1 h2 => ?_⟩
            cases i with
            | zero => cases h1; cases h2; exact s2 C L c1
            | succ i => exact u2 i cl s' h1 h2
        · rw [if_neg q2] at hx
          cases hx
/-! what a CHANGE weighs by such a LAW -/
def clmp (v : Int) : Nat := (max 0 (min 99 v)).toNat
def barS (sms : List SM) (W : Nat → Int32) : Bool := sms.any (fun s => s.1 && (s.2.1 W == some true))
def weiS (W : Nat → Int32) (acc : Nat) (s : SM) : Nat := if s.1 = false ∧ s.2.1 W = some true then (match s.2.2 W with
  | some v => clmp v
  | none => acc) else acc
def lawS (sms : List SM) (W : Nat → Int32) : Option Nat := if barS sms W then none else some (sms.foldl (weiS W) 1)
theorem clmp_le (v : Int) : clmp v ≤ 99 := by
  unfold clmp
  omega
theorem fold_le {W : Nat → Int32} : ∀ (sms : List SM) (a : Nat), a ≤ 99 → sms.foldl (weiS W) a ≤ 99
  | [], a, h => h
  | s :: r, a, h => by
    rw [List.foldl_cons]
    apply fold_le r
    unfold weiS
    split
    · split
      · exact clmp_le _
      · exact h
    · exact h
end
