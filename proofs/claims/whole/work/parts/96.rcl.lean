/-! the reference reads CLAUSES -/
/-- where reading stands behind a step, from a good state or a bad one -/
abbrev PK : Type := Nat ⊕ (Nat × Nat)
def RK (M : Mem) (T : Nat → Nat) (len : Nat) (pl : Nat → Nat) (ord : Bool) (r : PK) (M1 : Mem) : Prop := Fr Srp M M1 ∧ match r with
  | .inl j => mI M1 47 25 = nI (pl j) ∧ pl j < 2147483648
  | .inr x => RPS M1 T len pl ord x.1 x.2
def RKs (M : Mem) (T : Nat → Nat) (len : Nat) (pl : Nat → Nat) (ord : Bool) (f : Mem → Option Mem) (r : PK) : Prop := TT (f M) (RK M T len pl ord r)
def pk3 (r : PR) : PK := match r with
  | .inl j => .inl j
  | .inr x => .inr (x.1, x.2.1)
def pkCo (r : Nat ⊕ (Nat × Nat × List Nat × Option Nat)) : PK := match r with
  | .inl j => .inl j
  | .inr x => .inr (x.1, x.2.1)
def pkC (r : PRC) : PK := match r with
  | .inl j => .inl j
  | .inr x => .inr (x.1, x.2.1)
section
variable {T : Nat → Nat} {len : Nat} {pl : Nat → Nat} {ord : Bool}
theorem RPQ.k {M M1 : Mem} {r : PR} (h : RPQ M T len pl ord r M1) : RK M T len pl ord (pk3 r) M1 := by
  cases r with
  | inl j => exact h
  | inr x => exact h
/-- a step, and what follows it -/
theorem RK.bind {M : Mem} (hM : LayM M) {f : Option Mem} {g : Mem → Option Mem} {r1 r2 : PK} (h : TT f (RK M T len pl ord r1)) (hl : ∀ j, r1 = .inl j → r2 = .inl j) (hbad : ∀ M1, BAD M1 → g M1 = some M1) (hr : ∀ x M1, r1 = .inr x → RPS M1 T len pl ord x.1 x.2 → TT (g M1) (RK M1 T len pl ord r2)) : TT (Option.bind f g) (RK M T len pl ord r2) := by
  rw [TT_bind]
  refine h.mono ?_
  rintro M1 ⟨a1, a2⟩
  cases hr1 : r1 with
  | inl j =>
    rw [hr1] at a2
    rw [hbad M1 (bad_of hM a1 a2), TT_some, hl j hr1]
    exact ⟨a1, a2⟩
  | inr x =>
    rw [hr1] at a2
    refine (hr x M1 hr1 a2).mono ?_
    rintro M2 ⟨b1', b2⟩
    exact ⟨a1.tr b1', b2⟩
noncomputable def coX (s8 : Mem) : Option Mem := Option.bind (f_X12_takes0 s8 47 3) (fun q12 => if q12.2 = 0 then (some q12.1) else (Option.bind (f_X12_readTest 100 q12.1 47 0) (fun q17 => some q17)))
theorem coX_bad {M : Mem} (h : BAD M) : coX M = some M := by
  unfold coX
  rw [r_takes_n h, Option.bind_some, if_pos rfl]
theorem r_co (hT : ∀ j, len ≤ j → T j = 256) {M : Mem} {k p u : Nat} (h : RPS M T len pl ord k p) (hp : p ≤ 50) : TT (coX M) (RK M T len pl ord (pkCo (pCo ord T k p u))) := by
  have t3 : f_X12_takes0 M 47 3 = some (if rc (T k) = 3 then (ADV M k, 1) else (M, 0)) := r_takes_y h (c := 3) (by decide)
  have c3 : rc (T k) = 3 ↔ T k = 262 := rc_tok (by omega) (by decide)
  unfold coX pCo
  rw [t3, Option.bind_some]
  by_cases q : T k = 262
  · have hkl := lt_of_T hT q (by decide)
    rw [if_pos (c3.mpr q), if_pos q, if_neg (show ¬ (1 : Int32) = 0 by decide)]
    obtain ⟨M1, e1, e2⟩ := (RP_T (pl := pl) (ord := ord) hT).1 (ADV M k) (k + 1) p u (h.adv hkl) hp
    rw [show f_X12_readTest 100 (ADV M k) 47 0 = some M1 from e1, Option.bind_some, TT_some]
    obtain ⟨a1, a2⟩ := e2
    cases hs : TESTr ord T 8 (k + 1) p u with
    | inl j => rw [hs] at a2; exact ⟨fr_adv.tr a1, a2⟩
    | inr x => rw [hs] at a2; exact ⟨fr_adv.tr a1, a2⟩
  · rw [if_neg (fun w => q (c3.mp w)), if_neg q, if_pos rfl, TT_some]
    exact ⟨Fr.rf, h⟩
theorem sf_k (k p u : Nat) : pk3 (pSF ord T k p u) = pk3 (SUMr ord T 8 k p u) := by
  unfold pSF
  cases SUMr ord T 8 k p u <;> rfl
theorem r_sf (hT : ∀ j, len ≤ j → T j = 256) {M : Mem} {k p u : Nat} (h : RPS M T len pl ord k p) (hp : p ≤ 50) : TT (f_X12_readSum 100 M 47 0) (RK M T len pl ord (pk3 (pSF ord T k p u))) := by
  rw [sf_k]
  exact ((RP_S0 (pl := pl) (ord := ord) hT).1 M k p u h hp).mono (fun M1 h1 => h1.k)
theorem sf_bad (hT : ∀ j, len ≤ j → T j = 256) {M : Mem} (h : BAD M) : f_X12_readSum 100 M 47 0 = some M := (RP_S0 (T := T) (len := len) (pl := fun _ => 0) (ord := false) hT).2 M h
theorem pk3_inl {r : PR} {j : Nat} (h : pk3 r = .inl j) : r = .inl j := by
  cases r with
  | inl i => cases h; rfl
  | inr x => cases h
theorem pk3_inr {r : PR} {x : Nat × Nat} (h : pk3 r = .inr x) : ∃ s, r = .inr (x.1, x.2, s) := by
  cases r with
  | inl i => cases h
  | inr y => cases h; exact ⟨y.2.2, rfl⟩
theorem r_law (hT : ∀ j, len ≤ j → T j = 256) {M : Mem} {k p u : Nat} (h : RPS M T len pl ord k p) (hp : p ≤ 50) (hu : u ≤ k) : TT (f_X12_readClause M 47) (RK M T len pl ord (pkC (pLaw ord T k p u))) := by
  have hM := h.1
  have hk := h.2.2.2.2.2.2.2.2.1
  have t1 : f_X12_takes0 M 47 1 = some (if rc (T k) = 1 then (ADV M k, 1) else (M, 0)) := r_takes_y h (c := 1) (by decide)
  have c1 : rc (T k) = 1 ↔ T k = 258 := rc_tok (by omega) (by decide)
  have c2 : rc (T k) = 2 ↔ T k = 259 := rc_tok (by omega) (by decide)
  have m2 : f_X12_must M 47 2 = some (if rc (T k) = 2 then ADV M k else FLT M pl k) := r_must_y h (c := 2) (by decide)
  unfold LayM at hM
  unfold f_X12_readClause
  simp only [hM, grd_T, bv]
  rw [t1, Option.bind_some]
  unfold pLaw
  by_cases q : T k = 258
  · have hkl := lt_of_T hT q (by decide)
    rw [if_pos (c1.mpr q), if_pos q, if_neg (show ¬ (1 : Int32) = 0 by decide)]
    have gg := G_SF hT (ord := ord) (u := u) hp hkl (by omega)
    have key := RK.bind (g := coX) (r2 := pkC (match pSF ord T (k + 1) p u with
      | .inl j => .inl j
      | .inr x => match pCo ord T x.1 x.2.1 (u + x.2.2.length) with
        | .inl j => .inl j
        | .inr y => .inr (y.1, y.2.1, x.2.2 ++ y.2.2.1, (0, 1, y.2.2.2, some u, none, none)))) (h.adv hkl).1 (r_sf (u := u) hT (h.adv hkl) hp) (fun j hj => ?_) (fun M1 hb => coX_bad hb) (fun x M1 hx h1 => ?_)
    · refine key.mono ?_
      rintro M1 ⟨a1, a2⟩
      exact ⟨fr_adv.tr a1, a2⟩
    · rw [pk3_inl hj]
      rfl
    · obtain ⟨s, hs⟩ := pk3_inr hx
      rw [hs] at gg ⊢
      obtain ⟨g1, g2, g3, g4, g5⟩ := gg
      refine (r_co (u := u + s.length) hT h1 g4).mono ?_
      rintro M2 ⟨a1, a2⟩
      simp only
      cases hc : pCo ord T x.1 x.2 (u + s.length) with
      | inl j => rw [hc] at a2; exact ⟨a1, a2⟩
      | inr y => rw [hc] at a2; exact ⟨a1, a2⟩
  · rw [if_neg (fun w => q (c1.mp w)), if_neg q, if_pos rfl, m2, Option.bind_some]
    by_cases q2 : T k = 259
    · have hkl := lt_of_T hT q2 (by decide)
      rw [if_pos (c2.mpr q2), if_pos q2]
      refine (show TT (coX (ADV M k)) _ from r_co (u := u) hT (h.adv hkl) hp).mono ?_
      rintro M2 ⟨a1, a2⟩
      cases hc : pCo ord T (k + 1) p u with
      | inl j => rw [hc] at a2; exact ⟨fr_adv.tr a1, a2⟩
      | inr y => rw [hc] at a2; exact ⟨fr_adv.tr a1, a2⟩
    · rw [if_neg (fun w => q2 (c2.mp w)), if_neg q2]
      rw [show (Option.bind (f_X12_takes0 (FLT M pl k) 47 3) (fun q12 => if q12.2 = 0 then (some q12.1) else (Option.bind (f_X12_readTest 100 q12.1 47 0) (fun q17 => some q17)))) = some (FLT M pl k) from coX_bad (bad_flt h), TT_some]
      exact (RPQ_flt h Fr.rf).k
/-- "times", then "if" -/
noncomputable def tiX (s8 : Mem) : Option Mem := Option.bind (f_X12_takes0 s8 47 26) (fun q12 => if q12.2 = 0 then (coX q12.1) else (Option.bind (f_X12_mustNumber q12.1 47 1 20) (fun q32 => coX q32)))
theorem tiX_bad {M : Mem} (h : BAD M) : tiX M = some M := by
  unfold tiX
  rw [r_takes_n h, Option.bind_some, if_pos rfl, coX_bad h]
def pkT (r : Nat ⊕ (Nat × Nat × List Nat × Nat × Option Nat)) : PK := match r with
  | .inl j => .inl j
  | .inr x => .inr (x.1, x.2.1)
def pkH (r : Nat ⊕ (Nat × Nat × List Nat × Nat × Option Nat × Nat)) : PK := match r with
  | .inl j => .inl j
  | .inr x => .inr (x.1, x.2.1)
theorem r_ti (hT : ∀ j, len ≤ j → T j = 256) {M : Mem} {k p u : Nat} (h : RPS M T len pl ord k p) (hp : p ≤ 50) : TT (tiX M) (RK M T len pl ord (pkT (pTm ord T k p u))) := by
  have t26 : f_X12_takes0 M 47 26 = some (if rc (T k) = 26 then (ADV M k, 1) else (M, 0)) := r_takes_y h (c := 26) (by decide)
  have c26 : rc (T k) = 26 ↔ T k = 261 := rc_tok (by omega) (by decide)
  unfold tiX pTm
  rw [t26, Option.bind_some]
  by_cases q : T k = 261
  · have hkl := lt_of_T hT q (by decide)
    have h1 := h.adv hkl
    have mn : f_X12_mustNumber (ADV M k) 47 1 20 = some (if 1000 + 1 ≤ T (k + 1) ∧ T (k + 1) ≤ 1000 + 20 then ADV (ADV M k) (k + 1) else FLT (ADV M k) pl (k + 1)) := r_mnum_y h1 (lo := 1) (hi := 20) (by omega) (by omega)
    rw [if_pos (c26.mpr q), if_pos q, if_neg (show ¬ (1 : Int32) = 0 by decide), mn, Option.bind_some]
    by_cases q1 : 1001 ≤ T (k + 1) ∧ T (k + 1) ≤ 1020
    · have hkl1 : k + 1 < len := lt_of_T hT (t := T (k + 1)) rfl (by omega)
      rw [if_pos (show 1000 + 1 ≤ T (k + 1) ∧ T (k + 1) ≤ 1000 + 20 by omega), if_pos q1]
      refine (r_co (u := u) hT (h1.adv hkl1) hp).mono ?_
      rintro M2 ⟨a1, a2⟩
      rw [show k + 1 + 1 = k + 2 from rfl] at a2
      cases hc : pCo ord T (k + 2) p u with
      | inl j => rw [hc] at a2; exact ⟨(fr_adv.tr fr_adv).tr a1, a2⟩
      | inr y => rw [hc] at a2; exact ⟨(fr_adv.tr fr_adv).tr a1, a2⟩
    · rw [if_neg (show ¬ (1000 + 1 ≤ T (k + 1) ∧ T (k + 1) ≤ 1000 + 20) by omega), if_neg q1, coX_bad (bad_flt h1), TT_some]
      exact (RPQ_flt h1 fr_adv).k
  · rw [if_neg (fun w => q (c26.mp w)), if_neg q, if_pos rfl]
    refine (r_co (u := u) hT h hp).mono ?_
    rintro M2 ⟨a1, a2⟩
    cases hc : pCo ord T k p u with
    | inl j => rw [hc] at a2; exact ⟨a1, a2⟩
    | inr y => rw [hc] at a2; exact ⟨a1, a2⟩
/-- "at" and a place -/
noncomputable def atX (s58 : Mem) : Option Mem := Option.bind (f_X12_must s58 47 25) (fun q62 => f_X12_readSum 100 q62 47 0)
theorem atX_bad (hT : ∀ j, len ≤ j → T j = 256) {M : Mem} (h : BAD M) : atX M = some M := by
  unfold atX
  rw [r_must_n h, Option.bind_some, sf_bad hT h]
theorem r_at (hT : ∀ j, len ≤ j → T j = 256) {M : Mem} {k p u : Nat} (h : RPS M T len pl ord k p) (hp : p ≤ 50) : TT (atX M) (RK M T len pl ord (pk3 (pAt ord T k p u))) := by
  have m25 : f_X12_must M 47 25 = some (if rc (T k) = 25 then ADV M k else FLT M pl k) := r_must_y h (c := 25) (by decide)
  have c25 : rc (T k) = 25 ↔ T k = 266 := rc_tok (by omega) (by decide)
  unfold atX pAt
  rw [m25, Option.bind_some]
  by_cases q : T k = 266
  · have hkl := lt_of_T hT q (by decide)
    rw [if_pos (c25.mpr q), if_pos q]
    refine (r_sf (u := u) hT (h.adv hkl) hp).mono ?_
    rintro M1 ⟨a1, a2⟩
    exact ⟨fr_adv.tr a1, a2⟩
  · rw [if_neg (fun w => q (c25.mp w)), if_neg q, sf_bad hT (bad_flt h), TT_some]
    exact (RPQ_flt h Fr.rf).k
end
