/-! CLAUSES and whole TEXTS, as functions of the tokens -/
/-- kind, times, where test, sum, thing, place stand -/
abbrev CL : Type := Nat × Nat × Option Nat × Option Nat × Option Nat × Option Nat
abbrev PRC : Type := Nat ⊕ (Nat × Nat × List Nat × CL)
section
variable (ord : Bool) (T : Nat → Nat)
def pSF : PF3 := fun k p u => match SUMr ord T 8 k p u with
  | .inl j => .inl j
  | .inr x => .inr (x.1, x.2.1, x.2.2 ++ [0])
/-- "if", or nothing -/
def pCo (k p u : Nat) : Nat ⊕ (Nat × Nat × List Nat × Option Nat) := if T k = 262 then (match TESTr ord T 8 (k + 1) p u with
  | .inl j => .inl j
  | .inr x => .inr (x.1, x.2.1, x.2.2 ++ [0], some u)) else .inr (k, p, [], none)
def pLaw (k p u : Nat) : PRC :=
  if T k = 258 then (match pSF ord T (k + 1) p u with
    | .inl j => .inl j
    | .inr x => match pCo ord T x.1 x.2.1 (u + x.2.2.length) with
      | .inl j => .inl j
      | .inr y => .inr (y.1, y.2.1, x.2.2 ++ y.2.2.1, (0, 1, y.2.2.2, some u, none, none)))
  else if T k = 259 then (match pCo ord T (k + 1) p u with
    | .inl j => .inl j
    | .inr y => .inr (y.1, y.2.1, y.2.2.1, (1, 1, y.2.2.2, none, none, none)))
  else .inl k
/-- "times", or nothing; then "if" -/
def pTm (k p u : Nat) : Nat ⊕ (Nat × Nat × List Nat × Nat × Option Nat) :=
  if T k = 261 then (if 1001 ≤ T (k + 1) ∧ T (k + 1) ≤ 1020 then (match pCo ord T (k + 2) p u with
    | .inl j => .inl j
    | .inr y => .inr (y.1, y.2.1, y.2.2.1, T (k + 1) - 1000, y.2.2.2)) else .inl (k + 1))
  else (match pCo ord T k p u with
    | .inl j => .inl j
    | .inr y => .inr (y.1, y.2.1, y.2.2.1, 1, y.2.2.2))
/-- "at" and a place -/
def pAt (k p u : Nat) : PR := if T k = 266 then pSF ord T (k + 1) p u else .inl k
/-- how one is born: the sort, where thing and place stand -/
def pHow (k p u : Nat) : Nat ⊕ (Nat × Nat × List Nat × Nat × Option Nat × Nat) :=
  if T k < 267 ∨ 271 < T k then .inl k
  else if T k = 268 then (match pSF ord T (k + 1) p u with
    | .inl j => .inl j
    | .inr x => match pAt ord T x.1 x.2.1 (u + x.2.2.length) with
      | .inl j => .inl j
      | .inr y => .inr (y.1, y.2.1, x.2.2 ++ y.2.2, 1, some u, u + x.2.2.length))
  else (match pAt ord T (k + 1) p u with
    | .inl j => .inl j
    | .inr y => .inr (y.1, y.2.1, y.2.2, T k - 267, none, u))
def pOrd (k p u : Nat) : PRC :=
  if T k = 260 then (match pSF ord T (k + 1) p u with
    | .inl j => .inl j
    | .inr x => match pHow ord T x.1 x.2.1 (u + x.2.2.length) with
      | .inl j => .inl j
      | .inr h => match pTm ord T h.1 h.2.1 (u + x.2.2.length + h.2.2.1.length) with
        | .inl j => .inl j
        | .inr y => .inr (y.1, y.2.1, x.2.2 ++ h.2.2.1 ++ y.2.2.1, (h.2.2.2.1, y.2.2.2.1, y.2.2.2.2, some u, h.2.2.2.2.1, some h.2.2.2.2.2)))
  else if T k = 278 then (match pSF ord T (k + 1) p u with
    | .inl j => .inl j
    | .inr x => match pTm ord T x.1 x.2.1 (u + x.2.2.length) with
      | .inl j => .inl j
      | .inr y => .inr (y.1, y.2.1, x.2.2 ++ y.2.2.1, (5, y.2.2.2.1, y.2.2.2.2, some u, none, none)))
  else .inl k
def pCl (k p u : Nat) : PRC := if ord then pOrd ord T k p u else pLaw ord T k p u
/-- so many CLAUSES at most: the fault, or all of them with their code -/
def pRd : Nat → Nat → Nat → Nat → Nat ⊕ (List CL × List Nat)
  | 0, k, _, _ => .inl k
  | n + 1, k, p, u => match pCl ord T k p u with
    | .inl j => .inl j
    | .inr c => if T c.1 = 256 then .inr ([c.2.2.2], c.2.2.1) else if T c.1 = 59 then (match pRd n (c.1 + 1) c.2.1 (u + c.2.2.1.length) with
      | .inl j => .inl j
      | .inr r => .inr (c.2.2.2 :: r.1, c.2.2.1 ++ r.2)) else .inl c.1
end
/-- where a CLAUSE's reading goes on -/
def GC (len k p u : Nat) (r : PRC) : Prop := match r with
  | .inl j => j ≤ len
  | .inr x => k < x.1 ∧ x.1 ≤ len ∧ p ≤ x.2.1 ∧ x.2.1 ≤ 50 ∧ u + x.2.2.1.length ≤ x.1
section
variable {ord : Bool} {T : Nat → Nat} {len : Nat}
def G0 (len k p u : Nat) (r : PR) : Prop := match r with
  | .inl j => j ≤ len
  | .inr x => k < x.1 ∧ x.1 ≤ len ∧ p ≤ x.2.1 ∧ x.2.1 ≤ 50 ∧ u + x.2.2.length ≤ x.1
theorem G_SF (hT : ∀ j, len ≤ j → T j = 256) {k p u : Nat} (hp : p ≤ 50) (hk : k ≤ len) (hu : u + 1 ≤ k) : G0 len k p u (pSF ord T k p u) := by
  have g := GD_SUMr hT (ord := ord) 8 k p u hp hk
  unfold pSF
  revert g
  cases SUMr ord T 8 k p u with
  | inl j => exact fun h => h
  | inr x =>
    rintro ⟨b1', b2, b3, b4, b5, b6⟩
    refine ⟨b1', b2, by show p ≤ x.2.1; omega, b4, ?_⟩
    simp only [List.length_append, List.length_singleton]
    omega
def GCo (len k p u : Nat) (r : Nat ⊕ (Nat × Nat × List Nat × Option Nat)) : Prop := match r with
  | .inl j => j ≤ len
  | .inr x => k ≤ x.1 ∧ x.1 ≤ len ∧ p ≤ x.2.1 ∧ x.2.1 ≤ 50 ∧ u + x.2.2.1.length ≤ x.1
theorem G_Co (hT : ∀ j, len ≤ j → T j = 256) {k p u : Nat} (hp : p ≤ 50) (hk : k ≤ len) (hu : u ≤ k) : GCo len k p u (pCo ord T k p u) := by
  unfold pCo
  split
  · rename_i e
    have hkl := lt_of_T hT e (by decide)
    have g := GD_TESTr hT (ord := ord) 8 (k + 1) p u hp hkl
    revert g
    cases TESTr ord T 8 (k + 1) p u with
    | inl j => exact fun h => h
    | inr x =>
      rintro ⟨b1', b2, b3, b4, b5, b6⟩
      refine ⟨by show k ≤ x.1; omega, b2, by show p ≤ x.2.1; omega, b4, ?_⟩
      simp only [List.length_append, List.length_singleton]
      omega
  · exact ⟨Nat.le_refl _, hk, Nat.le_refl _, hp, by simpa using hu⟩
theorem G_Law (hT : ∀ j, len ≤ j → T j = 256) {k p u : Nat} (hp : p ≤ 50) (hk : k ≤ len) (hu : u ≤ k) : GC len k p u (pLaw ord T k p u) := by
  unfold pLaw
  split
  · rename_i e
    have hkl := lt_of_T hT e (by decide)
    have g := G_SF hT (ord := ord) (u := u) hp hkl (by omega)
    revert g
    cases pSF ord T (k + 1) p u with
    | inl j => exact fun h => h
    | inr x =>
      rintro ⟨b1', b2, b3, b4, b5⟩
      have g := G_Co hT (ord := ord) (u := u + x.2.2.length) b4 b2 b5
      simp only
      revert g
      cases pCo ord T x.1 x.2.1 (u + x.2.2.length) with
      | inl j => exact fun h => h
      | inr y =>
        rintro ⟨c1, c2, c3, c4, c5⟩
        refine ⟨by show k < y.1; omega, c2, by show p ≤ y.2.1; omega, c4, ?_⟩
        simp only [List.length_append]
        omega
  split
  · rename_i e
    have hkl := lt_of_T hT e (by decide)
    have g := G_Co hT (ord := ord) (u := u) hp hkl (by omega)
    revert g
    cases pCo ord T (k + 1) p u with
    | inl j => exact fun h => h
    | inr y =>
      rintro ⟨c1, c2, c3, c4, c5⟩
      exact ⟨by show k < y.1; omega, c2, c3, c4, c5⟩
  · exact hk
end
