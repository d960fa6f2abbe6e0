/-! what ORDERS tell -/
/-- kind, times, test, sum, thing, place -/
abbrev OSM : Type := Nat × Nat × ((Nat → Int32) → Option Bool) × ((Nat → Int32) → Option Int) × ((Nat → Int32) → Option Int) × ((Nat → Int32) → Option Int)
/-- a stretch of code tells that -/
def CDV (C : Nat → Nat) (L : Nat) (o : Option Nat) (val : (Nat → Int32) → Option Int) : Prop := ∃ u, o = some u ∧ u < 1000 ∧ VB val ∧ ∀ W, RUN C L (tI W) u [] (val W)
def OMC (C : Nat → Nat) (L : Nat) (cl : CL) (o : OSM) : Prop := cl.1 = o.1 ∧ cl.2.1 = o.2.1 ∧ (∀ t, cl.2.2.1 = some t → t < 1000 ∧ ∀ W, RUN C L (tI W) t [] ((o.2.2.1 W).map bi)) ∧ (cl.2.2.1 = none → ∀ W, o.2.2.1 W = some true) ∧ CDV C L cl.2.2.2.1 o.2.2.2.1 ∧ (o.1 = 1 → CDV C L cl.2.2.2.2.1 o.2.2.2.2.1) ∧ (o.1 ≠ 5 → CDV C L cl.2.2.2.2.2 o.2.2.2.2.2)
def RTMo (T : Nat → Nat) (len k k2 times : Nat) (tv : (Nat → Int32) → Option Bool) : Prop := (T k = 261 ∧ 1001 ≤ T (k + 1) ∧ T (k + 1) ≤ 1020 ∧ times = T (k + 1) - 1000 ∧ RCO T len true (k + 2) k2 tv) ∨ (T k ≠ 261 ∧ times = 1 ∧ RCO T len true k k2 tv)
def RHW (T : Nat → Nat) (len k k2 kind : Nat) (th pl : (Nat → Int32) → Option Int) : Prop := 267 ≤ T k ∧ T k ≤ 271 ∧ kind = T k - 267 ∧ ((kind = 1 ∧ VB th ∧ ∃ j, j ≤ len ∧ RSV (f_X12_sumOf 100) T len true (k + 1) j th ∧ T j = 266 ∧ VB pl ∧ RSV (f_X12_sumOf 100) T len true (j + 1) k2 pl) ∨ (kind ≠ 1 ∧ T (k + 1) = 266 ∧ VB pl ∧ RSV (f_X12_sumOf 100) T len true (k + 2) k2 pl))
def ROC (T : Nat → Nat) (len k k2 : Nat) (o : OSM) : Prop := k < k2 ∧ k2 ≤ len ∧ 1 ≤ o.2.1 ∧ o.2.1 ≤ 20 ∧ VB o.2.2.2.1 ∧ ((o.1 = 5 ∧ T k = 278 ∧ ∃ k1, k1 ≤ len ∧ RSV (f_X12_sumOf 100) T len true (k + 1) k1 o.2.2.2.1 ∧ RTMo T len k1 k2 o.2.1 o.2.2.1) ∨ (o.1 ≤ 4 ∧ T k = 260 ∧ ∃ k1 k3, k1 ≤ len ∧ k3 ≤ len ∧ RSV (f_X12_sumOf 100) T len true (k + 1) k1 o.2.2.2.1 ∧ RHW T len k1 k3 o.1 o.2.2.2.2.1 o.2.2.2.2.2 ∧ RTMo T len k3 k2 o.2.1 o.2.2.1))
section
variable {T : Nat → Nat} {len : Nat}
theorem sem_Tm (hT : ∀ j, len ≤ j → T j = 256) (hlen : len ≤ 400) {k p u : Nat} {y : Nat × Nat × List Nat × Nat × Option Nat} (hp : p ≤ 50) (hk : k ≤ len) (hx : pTm true T k p u = .inr y) : ∃ tv, 1 ≤ y.2.2.2.1 ∧ y.2.2.2.1 ≤ 20 ∧ RTMo T len k y.1 y.2.2.2.1 tv ∧ (y.2.2.2.2 = none → ∀ W, tv W = some true) ∧ ∀ t, y.2.2.2.2 = some t → t = u ∧ ∀ C L W, CodeAt C L u y.2.2.1 → RUN C L (tI W) u [] ((tv W).map bi) := by
  unfold pTm at hx
  by_cases q : T k = 261
  · have hkl := lt_of_T hT q (by decide)
    rw [if_pos q] at hx
    by_cases q2 : 1001 ≤ T (k + 1) ∧ T (k + 1) ≤ 1020
    · rw [if_pos q2] at hx
      have hkl2 : k + 1 < len := Nat.lt_of_not_le (fun z => by have := hT (k + 1) z; omega)
      cases hc : pCo true T (k + 2) p u with
      | inl j => rw [hc] at hx; cases hx
      | inr z =>
        rw [hc] at hx
        cases hx
        obtain ⟨tv, t1, t2, t3⟩ := sem_Co (ord := true) hT hlen hp (show k + 2 ≤ len by omega) hc
        exact ⟨tv, by show 1 ≤ T (k + 1) - 1000; omega, by show T (k + 1) - 1000 ≤ 20; omega, Or.inl ⟨q, q2.1, q2.2, rfl, t1⟩, t2, t3⟩
    · rw [if_neg q2] at hx
      cases hx
  · rw [if_neg q] at hx
    cases hc : pCo true T k p u with
    | inl j => rw [hc] at hx; cases hx
    | inr z =>
      rw [hc] at hx
      cases hx
      obtain ⟨tv, t1, t2, t3⟩ := sem_Co (ord := true) hT hlen hp hk hc
      exact ⟨tv, Nat.le_refl _, by show 1 ≤ 20; omega, Or.inr ⟨q, rfl, t1⟩, t2, t3⟩
theorem sem_How (hT : ∀ j, len ≤ j → T j = 256) (hlen : len ≤ 400) {k p u : Nat} {h : Nat × Nat × List Nat × Nat × Option Nat × Nat} (hp : p ≤ 50) (hk : k ≤ len) (hu : u ≤ k) (hx : pHow true T k p u = .inr h) : ∃ th pl, h.2.2.2.1 ≤ 4 ∧ RHW T len k h.1 h.2.2.2.1 th pl ∧ ∀ C L, CodeAt C L u h.2.2.1 → (h.2.2.2.1 = 1 → CDV C L h.2.2.2.2.1 th) ∧ CDV C L (some h.2.2.2.2.2) pl := by
  have gH := G_How hT (ord := true) hp hk hu
  rw [hx] at gH
  unfold pHow at hx
  by_cases q0 : T k < 267 ∨ 271 < T k
  · rw [if_pos q0] at hx
    cases hx
  rw [if_neg q0] at hx
  have hkl : k < len := Nat.lt_of_not_le (fun z => by have := hT k z; omega)
  by_cases q1 : T k = 268
  · rw [if_pos q1] at hx
    have gg := G_SF hT (ord := true) (u := u) hp hkl (by omega)
    cases hs : pSF true T (k + 1) p u with
    | inl j => rw [hs] at hx; cases hx
    | inr x =>
      rw [hs] at hx gg
      obtain ⟨g1, g2, g3, g4, g5⟩ := gg
      simp only at hx
      obtain ⟨th, v1, v2, v3⟩ := sem_SF (ord := true) hT hlen hp hkl hs
      unfold pAt at hx
      by_cases q2 : T x.1 = 266
      · rw [if_pos q2] at hx
        have hxl := lt_of_T hT q2 (by decide)
        cases hs2 : pSF true T (x.1 + 1) x.2.1 (u + x.2.2.length) with
        | inl j => rw [hs2] at hx; cases hx
        | inr y =>
          rw [hs2] at hx
          cases hx
          obtain ⟨pl, w1, w2, w3⟩ := sem_SF (ord := true) hT hlen g4 hxl hs2
          refine ⟨th, pl, by show 1 ≤ 4; omega, ⟨by omega, by omega, by show 1 = T k - 267; omega, Or.inl ⟨rfl, v1, x.1, g2, v3, q2, w1, w3⟩⟩, fun C L hC => ?_⟩
          obtain ⟨c1, c2⟩ := hC.app
          exact ⟨fun _ => ⟨u, rfl, by omega, v1, fun W => v2 C L W c1⟩, u + x.2.2.length, rfl, by omega, w1, fun W => w2 C L W c2⟩
      · rw [if_neg q2] at hx
        cases hx
  · rw [if_neg q1] at hx
    unfold pAt at hx
    by_cases q2 : T (k + 1) = 266
    · rw [if_pos q2] at hx
      have hxl := lt_of_T hT q2 (by decide)
      cases hs2 : pSF true T (k + 1 + 1) p u with
      | inl j => rw [hs2] at hx; cases hx
      | inr y =>
        rw [hs2] at hx
        cases hx
        obtain ⟨pl, w1, w2, w3⟩ := sem_SF (ord := true) hT hlen hp hxl hs2
        refine ⟨fun _ => none, pl, by show T k - 267 ≤ 4; omega, ⟨by omega, by omega, rfl, Or.inr ⟨by show T k - 267 ≠ 1; omega, q2, w1, w3⟩⟩, fun C L hC => ⟨fun q => ?_, u, rfl, by omega, w1, fun W => w2 C L W hC⟩⟩
        have q : T k - 267 = 1 := q
        omega
    · rw [if_neg q2] at hx
      cases hx
theorem sem_Ord (hT : ∀ j, len ≤ j → T j = 256) (hlen : len ≤ 400) {k p u : Nat} {x : Nat × Nat × List Nat × CL} (hp : p ≤ 50) (hk : k ≤ len) (hu : u ≤ k) (hx : pOrd true T k p u = .inr x) : ∃ o : OSM, ROC T len k x.1 o ∧ ∀ C L, CodeAt C L u x.2.2.1 → OMC C L x.2.2.2 o := by
  have gO := G_Ord hT (ord := true) hp hk hu
  rw [hx] at gO
  unfold pOrd at hx
  by_cases q1 : T k = 260
  · have hkl := lt_of_T hT q1 (by decide)
    rw [if_pos q1] at hx
    have gg := G_SF hT (ord := true) (u := u) hp hkl (by omega)
    cases hs : pSF true T (k + 1) p u with
    | inl j => rw [hs] at hx; cases hx
    | inr a =>
      rw [hs] at hx gg
      obtain ⟨g1, g2, g3, g4, g5⟩ := gg
      simp only at hx
      obtain ⟨sv, v1, v2, v3⟩ := sem_SF (ord := true) hT hlen hp hkl hs
      have gH := G_How hT (ord := true) (u := u + a.2.2.length) g4 g2 (by omega)
      cases hh : pHow true T a.1 a.2.1 (u + a.2.2.length) with
      | inl j => rw [hh] at hx; cases hx
      | inr h =>
        rw [hh] at hx gH
        simp only at hx
        obtain ⟨th, pl, h4, hw, hcd⟩ := sem_How hT hlen g4 g2 (by omega) hh
        cases ht : pTm true T h.1 h.2.1 (u + a.2.2.length + h.2.2.1.length) with
        | inl j => rw [ht] at hx; cases hx
        | inr y =>
          rw [ht] at hx
          cases hx
          obtain ⟨tv, t1, t2, t3, t4, t5⟩ := sem_Tm hT hlen (by omega) (by omega) ht
          refine ⟨(h.2.2.2.1, y.2.2.2.1, tv, sv, th, pl), ⟨gO.1, gO.2.1, t1, t2, v1, Or.inr ⟨h4, q1, a.1, h.1, g2, by omega, v3, hw, t3⟩⟩, fun C L hC => ?_⟩
          obtain ⟨c12, c3⟩ := hC.app
          obtain ⟨c1, c2⟩ := c12.app
          rw [List.length_append, ← Nat.add_assoc] at c3
          obtain ⟨d1, d2⟩ := hcd C L c2
          refine ⟨rfl, rfl, fun t e => ?_, t4, ⟨u, rfl, by omega, v1, fun W => v2 C L W c1⟩, d1, fun _ => d2⟩
          obtain ⟨e1, e2⟩ := t5 t e
          subst e1
          exact ⟨by omega, fun W => e2 C L W c3⟩
  rw [if_neg q1] at hx
  by_cases q2 : T k = 278
  · have hkl := lt_of_T hT q2 (by decide)
    rw [if_pos q2] at hx
    have gg := G_SF hT (ord := true) (u := u) hp hkl (by omega)
    cases hs : pSF true T (k + 1) p u with
    | inl j => rw [hs] at hx; cases hx
    | inr a =>
      rw [hs] at hx gg
      obtain ⟨g1, g2, g3, g4, g5⟩ := gg
      simp only at hx
      obtain ⟨sv, v1, v2, v3⟩ := sem_SF (ord := true) hT hlen hp hkl hs
      cases ht : pTm true T a.1 a.2.1 (u + a.2.2.length) with
      | inl j => rw [ht] at hx; cases hx
      | inr y =>
        rw [ht] at hx
        cases hx
        obtain ⟨tv, t1, t2, t3, t4, t5⟩ := sem_Tm hT hlen g4 g2 ht
        refine ⟨(5, y.2.2.2.1, tv, sv, fun _ => none, fun _ => none), ⟨gO.1, gO.2.1, t1, t2, v1, Or.inl ⟨rfl, q2, a.1, g2, v3, t3⟩⟩, fun C L hC => ?_⟩
        obtain ⟨c1, c2⟩ := hC.app
        refine ⟨rfl, rfl, fun t e => ?_, t4, ⟨u, rfl, by omega, v1, fun W => v2 C L W c1⟩, (fun q => by cases q), fun q => absurd rfl q⟩
        obtain ⟨e1, e2⟩ := t5 t e
        subst e1
        exact ⟨by omega, fun W => e2 C L W c2⟩
  · rw [if_neg q2] at hx
    cases hx
def OMS (C : Nat → Nat) (L : Nat) (cls : List CL) (os : List OSM) : Prop := os.length = cls.length ∧ ∀ (i : Nat) (cl : CL) (o : OSM), cls[i]? = some cl → os[i]? = some o → OMC C L cl o
def ROX (T : Nat → Nat) (len : Nat) : Nat → List OSM → Prop
  | _, [] => False
  | k, o :: r => ∃ k2, ROC T len k k2 o ∧ ((T k2 = 256 ∧ r = []) ∨ (T k2 = 59 ∧ ROX T len (k2 + 1) r))
theorem sem_RdO (hT : ∀ j, len ≤ j → T j = 256) (hlen : len ≤ 400) : ∀ n k p u x, p ≤ 50 → k ≤ len → u ≤ k → pRd true T n k p u = .inr x → ∃ os : List OSM, ROX T len k os ∧ os.length = x.1.length ∧ ∀ C L, CodeAt C L u x.2 → OMS C L x.1 os := by
  intro n
  induction n with
  | zero => intro k p u x _ _ _ h; cases h
  | succ n ih =>
    intro k p u x hp hk hu hx
    rw [pRd] at hx
    have gc := G_Cl hT (ord := true) (u := u) hp hk hu
    cases hc : pCl true T k p u with
    | inl j => rw [hc] at hx; cases hx
    | inr c =>
      rw [hc] at hx gc
      obtain ⟨g1, g2, g3, g4, g5⟩ := gc
      have hcl : pOrd true T k p u = .inr c := by
        unfold pCl at hc
        exact hc
      obtain ⟨s, s1, s2⟩ := sem_Ord hT hlen hp hk hu hcl
      simp only at hx
      by_cases q1 : T c.1 = 256
      · rw [if_pos q1] at hx
        cases hx
        refine ⟨[s], ⟨c.1, s1, Or.inl ⟨q1, rfl⟩⟩, rfl, fun C L hC => ⟨rfl, fun i cl s' h1 h2 => ?_⟩⟩
        have hi : i < 1 := (List.getElem?_eq_some_iff.mp h1).1
        obtain rfl : i = 0 := by omega
        cases h1
        cases h2
        exact s2 C L hC
      · rw [if_neg q1] at hx
        by_cases q2 : T c.1 = 59
        · rw [if_pos q2] at hx
          have hxl := lt_of_T hT q2 (by decide)
          cases hr : pRd true T n (c.1 + 1) c.2.1 (u + c.2.2.1.length) with
          | inl j => rw [hr] at hx; cases hx
          | inr r =>
            rw [hr] at hx
            cases hx
            obtain ⟨sms, t1, t2, t3⟩ := ih (c.1 + 1) c.2.1 (u + c.2.2.1.length) r g4 hxl (by omega) hr
            refine ⟨s :: sms, ⟨c.1, s1, Or.inr ⟨q2, t1⟩⟩, by simp only [List.length_cons]; omega, fun C L hC => ?_⟩
            obtain ⟨c1, c2⟩ := hC.app
            obtain ⟨u1, u2⟩ := t3 C L c2
            refine ⟨by simp only [List.length_cons]; omega, fun i cl s' h1 h2 => ?_⟩
            cases i with
            | zero => cases h1; cases h2; exact s2 C L c1
            | succ i => exact u2 i cl s' h1 h2
        · rw [if_neg q2] at hx
          cases hx
end
