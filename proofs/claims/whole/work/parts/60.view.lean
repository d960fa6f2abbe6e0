/-! what both sides have of HOUSES and THINGS, as numbers and lists -/
def HSV (M : Mem) (n : Nat) (mo : Nat → Option Nat) (yr : Nat → Nat) (di : Nat → List Nat) : Prop := n ≤ 12 ∧ mI M 49 56 = nI n ∧ mI M 1 8 = nI n ∧ ∀ h, h < n → (∀ m, mo h = some m → m < h) ∧ yr h ≤ 999 ∧ DL (di h) ∧ mI M 49 (18 + 3 * h) = oI (mo h) ∧ mI M 49 (19 + 3 * h) = nI (yr h) ∧ mI M 49 (20 + 3 * h) = nI (num (di h)) ∧ mI M 5 h = oI (mo h) ∧ mI M 6 h = nI (yr h) ∧ mI M 7 h = nI (rank (di h)) ∧ mI M 8 h = nI (tst (di h))
theorem REL.hsv {M : Mem} (h : REL M) : ∃ n mo yr di, HSV M n mo yr di := by
  obtain ⟨hC, hM, ⟨_, _, _, n, hn, h56, hH⟩, ⟨_, hO, hV⟩, _⟩ := h
  have key : ∀ g : Nat, ∃ w : Option Nat × Nat × List Nat, g < n → (∀ m, w.1 = some m → m < g) ∧ w.2.1 ≤ 999 ∧ DL w.2.2 ∧ mI M 49 (18 + 3 * g) = oI w.1 ∧ mI M 49 (19 + 3 * g) = nI w.2.1 ∧ mI M 49 (20 + 3 * g) = nI (num w.2.2) ∧ mI M 5 g = oI w.1 ∧ mI M 6 g = nI w.2.1 ∧ mI M 7 g = nI (rank w.2.2) ∧ mI M 8 g = nI (tst w.2.2) := by
    intro g
    by_cases hg : g < n
    · obtain ⟨a1, ⟨y, hy, e2⟩, l, hl, e3⟩ := hH g hg
      obtain ⟨b1, b2, b3⟩ := hV n g hn h56 hg
      obtain ⟨b4, b5⟩ := b3 l hl e3
      rcases a1 with a1 | ⟨m, hm, a1⟩
      · exact ⟨(none, y, l), fun _ => ⟨fun m q => (by cases q), hy, hl, a1, e2, e3, by rw [b1, a1]; rfl, by rw [b2, e2], b4, b5⟩⟩
      · exact ⟨(some m, y, l), fun _ => ⟨fun m2 q => (by cases q; exact hm), hy, hl, a1, e2, e3, by rw [b1, a1]; rfl, by rw [b2, e2], b4, b5⟩⟩
    · exact ⟨(none, 0, []), fun q => absurd q hg⟩
  obtain ⟨w, hw⟩ := Classical.axiomOfChoice key
  exact ⟨n, fun g => (w g).1, fun g => (w g).2.1, fun g => (w g).2.2, hn, h56, by rw [hO.1, h56], fun g hg => hw g hg⟩
def THV (M : Mem) (sw : Nat → Nat) (gt : Nat → Bool) (sd : Nat → Option Nat) : Prop := ∀ t, t < 6 → sw t ≤ 9 ∧ (∀ u, sd t = some u → u < 6 ∧ u ≠ t) ∧ mI M 49 t = nI (sw t) ∧ mI M 49 (6 + t) = (if gt t then 1 else 0) ∧ mI M 49 (12 + t) = oI (sd t) ∧ mI M 2 t = nI (sw t) ∧ mI M 3 t = (if gt t then 1 else 0) ∧ mI M 4 t = oI (sd t)
theorem REL.thv {M : Mem} (h : REL M) : ∃ sw gt sd, THV M sw gt sd := by
  obtain ⟨hC, hM, ⟨hT, _, _, _⟩, ⟨hV, _, _⟩, _⟩ := h
  have key : ∀ t : Nat, ∃ w : Nat × Bool × Option Nat, t < 6 → w.1 ≤ 9 ∧ (∀ u, w.2.2 = some u → u < 6 ∧ u ≠ t) ∧ mI M 49 t = nI w.1 ∧ mI M 49 (6 + t) = (if w.2.1 then 1 else 0) ∧ mI M 49 (12 + t) = oI w.2.2 ∧ mI M 2 t = nI w.1 ∧ mI M 3 t = (if w.2.1 then 1 else 0) ∧ mI M 4 t = oI w.2.2 := by
    intro t
    by_cases ht : t < 6
    · obtain ⟨⟨a, ha, e1⟩, e2, e3⟩ := hT t ht
      obtain ⟨b1, b2, b3⟩ := hV t ht
      have g : ∃ g : Bool, mI M 49 (6 + t) = (if g then 1 else 0) := by
        rcases e2 with q | q
        · exact ⟨false, q⟩
        · exact ⟨true, q⟩
      have s : ∃ s : Option Nat, mI M 49 (12 + t) = oI s ∧ ∀ u, s = some u → u < 6 ∧ u ≠ t := by
        rcases e3 with q | ⟨u, h6, hu, q⟩
        · exact ⟨none, q, fun u q => (by cases q)⟩
        · exact ⟨some u, q, fun u2 q2 => by cases q2; exact ⟨h6, hu⟩⟩
      obtain ⟨g, hg⟩ := g
      obtain ⟨s, hs, hs2⟩ := s
      exact ⟨(a, g, s), fun _ => ⟨ha, hs2, e1, hg, hs, by rw [b1, e1], by rw [b2, hg], by rw [b3, hs]⟩⟩
    · exact ⟨(0, false, none), fun q => absurd q ht⟩
  obtain ⟨w, hw⟩ := Classical.axiomOfChoice key
  exact ⟨fun g => (w g).1, fun g => (w g).2.1, fun g => (w g).2.2, fun g hg => hw g hg⟩
theorem oI_none : oI none = -1 := rfl
theorem oI_some (u : Nat) : oI (some u) = nI u := rfl
theorem oI_m1 {o : Option Nat} (h : ∀ u, o = some u → u < 2147483648) : oI o = -1 ↔ o = none := by
  cases o with
  | none => exact ⟨fun _ => rfl, fun _ => rfl⟩
  | some u => exact ⟨fun q => absurd q (nne_m1 (h u rfl)), fun q => by cases q⟩
/-- the answer to 'the i-th, or how many' -/
def NTH (L : List Nat) (p x : Int32) : Prop := (p = -1 ∧ x = nI L.length) ∨ (∃ j v, p = nI j ∧ L[j]? = some v ∧ x = nI v) ∨ (p ≠ -1 ∧ (∀ j, j < L.length → p ≠ nI j) ∧ x = -1)
theorem NTH.eq {L : List Nat} (hL : L.length < 2147483648) {p x y : Int32} (h1 : NTH L p x) (h2 : NTH L p y) : x = y := by
  have lt : ∀ {j v : Nat}, L[j]? = some v → j < L.length := fun {j v} h => (List.getElem?_eq_some_iff.mp h).1
  rcases h1 with ⟨a, rfl⟩ | ⟨j, v, a, b, rfl⟩ | ⟨a, b, rfl⟩ <;> rcases h2 with ⟨a', rfl⟩ | ⟨j', v', a', b', rfl⟩ | ⟨a', b', rfl⟩
  · rfl
  · exact absurd (a' ▸ a) (nne_m1 (by have := lt b'; omega))
  · exact absurd a a'
  · exact absurd (a ▸ a') (nne_m1 (by have := lt b; omega))
  · have e : nI j = nI j' := a ▸ a'
    rw [neqI (by have := lt b; omega) (by have := lt b'; omega)] at e
    subst e
    rw [b] at b'
    cases b'
    rfl
  · exact absurd a (b' j (lt b))
  · exact absurd a' a
  · exact absurd a' (b j' (lt b'))
  · rfl
