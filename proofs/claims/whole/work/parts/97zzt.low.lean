/-! the lowest of all that were made; the way, the class -/
def LOW (L : List (List Nat × Nat)) (P : Nat → Prop) (o : Option Nat) : Prop := (∀ c, c ∈ L → P (rank c.1) → ∃ b, o = some b ∧ b ≤ rank c.1) ∧ ∀ b, o = some b → (∃ c, c ∈ L ∧ rank c.1 = b) ∧ P b
theorem lay26 {M : Mem} (h : MID M) : okO M 1 26 ∧ mR M 26 3 = some 30 ∧ okO M 14 30 ∧ mL M 30 = 45 := by
  have hL := h.1.1
  unfold LayC at hL
  simp only [hL, and_self]
noncomputable def lw0 (M : Mem) (a0 : Nat) (p1 : Int32) (a2 : Nat) (p3 : Int32) : Int32 × Int32 → Option ((Int32 × Int32) ⊕ Int32) := (fun s1 => grd (okO M 1 a0) (if (mI M a0 5) ≤ s1.2 then (some (.inr s1.1)) else (Option.bind (mR M a0 3) (fun r10 => grd (okO M 14 r10) (grd (vp_in s1.2 (mL M r10)) (bv (mI M r10 s1.2.toNatClampNeg : Int32) (fun x13 => bv (fun (s15 : Int32) => bv (s1.2 + 1 : Int32) (fun x18 => some (.inl (s15, x18)))) (fun j14 => if x13 ≤ p1 then (j14 s1.1) else (bv (fun (s20 : Unit) => grd (okO M 2 a2) (Option.bind (mR M a2 2) (fun r24 => grd (okO M 16 r24) (grd (vp_in x13 (mL M r24)) (if (mI M r24 x13.toNatClampNeg) = p3 then (j14 x13) else (j14 s1.1)))))) (fun j19 => if s1.1 = (-1) then (j19 ()) else (if s1.1 ≤ x13 then (j14 s1.1) else (j19 ()))))))))))))
theorem lowest_eq {M : Mem} {a0 a2 : Nat} {p1 p3 : Int32} : f_X1_lowestMade M a0 p1 a2 p3 = Option.bind (loopO (lw0 M a0 p1 a2 p3) (-1, 0)) (fun x7 => some x7) := rfl
theorem oI_le {o : Option Nat} (ho : ∀ a, o = some a → a < 2147483648) {r : Nat} (hr : r < 2147483648) : nI r ≤ oI o ↔ ∃ a, o = some a ∧ r ≤ a := by
  cases o with
  | none =>
    show nI r ≤ -1 ↔ _
    constructor
    · intro q
      exfalso
      rw [Int32.le_iff_toInt_le, nI_tI hr] at q
      have : (-1 : Int32).toInt = -1 := by decide
      omega
    · rintro ⟨a, q, _⟩
      cases q
  | some a =>
    show nI r ≤ nI a ↔ _
    rw [nleI hr (ho a rfl)]
    exact ⟨fun q => ⟨a, rfl, q⟩, fun ⟨a', q1, q2⟩ => by cases q1; exact q2⟩
theorem c_lowest {M : Mem} (h : MID M) {L : List (List Nat × Nat)} (hL : MADE M L) (hlen : L.length ≤ 45) (hd : ∀ c, c ∈ L → DL c.1) {d : Nat} (hT : TB M d) {ab : Option Nat} (hab : ∀ a, ab = some a → a < 9331) {p3 : Int32} : ∃ o, f_X1_lowestMade M 26 (oI ab) d p3 = some (oI o) ∧ (∀ b, o = some b → b < 9331) ∧ LOW L (fun r => (∀ a, ab = some a → a < r) ∧ mI M (d + 1) r = p3) o := by
  obtain ⟨a1, a2, a3, a4⟩ := lay26 h
  obtain ⟨t1, t2, t3, t4, t5, t6, t7, t8, t9, t10⟩ := hT
  have key : TT (loopO (lw0 M 26 (oI ab) d p3) (-1, 0)) (fun x => ∃ o, x = oI o ∧ LOW L (fun r => (∀ a, ab = some a → a < r) ∧ mI M (d + 1) r = p3) o) := by
    refine TT_for L.length (fun k s => ∃ o, s = (oI o, nI k) ∧ (∀ b, o = some b → b < 9331) ∧ (∀ j c, j < k → L[j]? = some c → ((∀ a, ab = some a → a < rank c.1) ∧ mI M (d + 1) (rank c.1) = p3) → ∃ b, o = some b ∧ b ≤ rank c.1) ∧ ∀ b, o = some b → (∃ c, c ∈ L ∧ rank c.1 = b) ∧ ((∀ a, ab = some a → a < b) ∧ mI M (d + 1) b = p3)) ?_ (Nat.zero_le _) ⟨none, rfl, (fun b q => by cases q), (fun j c hj => by omega), (fun b q => by cases q)⟩
    rintro k s hk ⟨o, rfl, hob, h1, h2⟩
    unfold lw0
    simp only
    rw [grd_y a1, hL.1]
    by_cases w : k = L.length
    · rw [if_pos ((nleI (by omega) (by omega)).mpr (by omega)), TT_some]
      refine ⟨o, rfl, fun c hc hp => ?_, h2⟩
      obtain ⟨j, hj, ej⟩ := List.getElem_of_mem hc
      exact h1 j c (by omega) (by rw [List.getElem?_eq_getElem hj, ej]) hp
    · have hlt : k < L.length := by omega
      have hc := List.getElem?_eq_getElem hlt
      have hcm := List.getElem_mem hlt
      generalize L[k] = c at hc hcm
      have hrl := rank_lt (hd c hcm)
      rw [if_neg (fun q => w (by have := (nleI (by omega) (by omega)).mp q; omega)), a2, Option.bind_some, grd_y a3, a4, grd_y ((nvp (by omega)).mpr (by omega)), nclampI (by omega), (hL.2.2 k c hc).1, TT_bv, TT_bv]
      have fin : ∀ o', (∀ b, o' = some b → b < 9331) → (∀ b', o = some b' → ∃ b, o' = some b ∧ b ≤ b') → (((∀ a, ab = some a → a < rank c.1) ∧ mI M (d + 1) (rank c.1) = p3) → ∃ b, o' = some b ∧ b ≤ rank c.1) → (∀ b, o' = some b → (∃ c, c ∈ L ∧ rank c.1 = b) ∧ ((∀ a, ab = some a → a < b) ∧ mI M (d + 1) b = p3)) → TT (some (Sum.inl (oI o', nI k + 1)) : Option ((Int32 × Int32) ⊕ Int32)) (fun r => r.elim (fun s' => k < L.length ∧ ∃ o, s' = (oI o, nI (k + 1)) ∧ (∀ b, o = some b → b < 9331) ∧ (∀ j c, j < k + 1 → L[j]? = some c → ((∀ a, ab = some a → a < rank c.1) ∧ mI M (d + 1) (rank c.1) = p3) → ∃ b, o = some b ∧ b ≤ rank c.1) ∧ ∀ b, o = some b → (∃ c, c ∈ L ∧ rank c.1 = b) ∧ ((∀ a, ab = some a → a < b) ∧ mI M (d + 1) b = p3)) (fun x => ∃ o, x = oI o ∧ LOW L (fun r => (∀ a, ab = some a → a < r) ∧ mI M (d + 1) r = p3) o)) := fun o' q1 q2 q3 q4 => by
        rw [TT_some]
        refine ⟨hlt, o', by rw [nsucc], q1, fun j c' hj hc' hp => ?_, q4⟩
        by_cases z : j = k
        · subst z
          rw [hc] at hc'
          cases hc'
          exact q3 hp
        · obtain ⟨b, e1, e2⟩ := h1 j c' (by omega) hc' hp
          obtain ⟨b2, e3, e4⟩ := q2 b e1
          exact ⟨b2, e3, by omega⟩
      have same : (((∀ a, ab = some a → a < rank c.1) ∧ mI M (d + 1) (rank c.1) = p3) → ∃ b, o = some b ∧ b ≤ rank c.1) → TT (some (Sum.inl (oI o, nI k + 1)) : Option ((Int32 × Int32) ⊕ Int32)) _ := fun q => fin o hob (fun b' e => ⟨b', e, Nat.le_refl _⟩) q h2
      by_cases w1 : nI (rank c.1) ≤ oI ab
      · rw [if_pos w1]
        refine same (fun q => ?_)
        obtain ⟨a, e1, e2⟩ := (oI_le (fun a q => by have := hab a q; omega) (by omega)).mp w1
        have := q.1 a e1
        omega
      · rw [if_neg w1, TT_bv, grd_y t2, t5, Option.bind_some, grd_y t7, t8, grd_y ((nvp (by omega)).mpr hrl), nclampI (by omega)]
        have ha' : ∀ a, ab = some a → a < rank c.1 := fun a e => by
          refine Classical.byContradiction (fun z => w1 ?_)
          exact (oI_le (fun a q => by have := hab a q; omega) (by omega)).mpr ⟨a, e, by omega⟩
        have go : (o = none ∨ ∃ b, o = some b ∧ rank c.1 < b) → TT (if mI M (d + 1) (rank c.1) = p3 then (some (Sum.inl (nI (rank c.1), nI k + 1)) : Option ((Int32 × Int32) ⊕ Int32)) else some (Sum.inl (oI o, nI k + 1))) (fun r => r.elim (fun s' => k < L.length ∧ ∃ o, s' = (oI o, nI (k + 1)) ∧ (∀ b, o = some b → b < 9331) ∧ (∀ j c, j < k + 1 → L[j]? = some c → ((∀ a, ab = some a → a < rank c.1) ∧ mI M (d + 1) (rank c.1) = p3) → ∃ b, o = some b ∧ b ≤ rank c.1) ∧ ∀ b, o = some b → (∃ c, c ∈ L ∧ rank c.1 = b) ∧ ((∀ a, ab = some a → a < b) ∧ mI M (d + 1) b = p3)) (fun x => ∃ o, x = oI o ∧ LOW L (fun r => (∀ a, ab = some a → a < r) ∧ mI M (d + 1) r = p3) o)) := fun ho => by
          by_cases w2 : mI M (d + 1) (rank c.1) = p3
          · rw [if_pos w2]
            refine fin (some (rank c.1)) (fun b e => by cases e; exact hrl) (fun b' e => ⟨_, rfl, ?_⟩) (fun _ => ⟨_, rfl, Nat.le_refl _⟩) (fun b e => ?_)
            · rcases ho with z | ⟨b, z1, z2⟩
              · rw [z] at e
                cases e
              · rw [z1] at e
                cases e
                omega
            · cases e
              exact ⟨⟨c, hcm, rfl⟩, ha', w2⟩
          · rw [if_neg w2]
            exact same (fun q => absurd q.2 w2)
        cases ho : o with
        | none =>
          rw [if_pos (show oI none = -1 from rfl)]
          subst ho
          exact go (Or.inl rfl)
        | some b =>
          have hb := hob b ho
          rw [if_neg (show ¬ oI (some b) = -1 from neg1_nI (by omega))]
          subst ho
          by_cases w3 : b ≤ rank c.1
          · rw [if_pos (show oI (some b) ≤ nI (rank c.1) from (nleI (by omega) (by omega)).mpr w3)]
            exact same (fun _ => ⟨b, rfl, w3⟩)
          · rw [if_neg (show ¬ oI (some b) ≤ nI (rank c.1) from fun q => w3 ((nleI (by omega) (by omega)).mp q))]
            exact go (Or.inr ⟨b, rfl, by omega⟩)
  obtain ⟨x, e1, o, e2, e3⟩ := key
  refine ⟨o, by rw [lowest_eq, e1, Option.bind_some, e2], fun b e => ?_, e3⟩
  obtain ⟨⟨c, hc, hr⟩, _⟩ := e3.2 b e
  rw [← hr]
  exact rank_lt (hd c hc)
