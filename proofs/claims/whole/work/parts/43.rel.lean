/-! what keeps the relation of class and reference -/
theorem CV.fr {M M1 : Mem} {S : Nat → Nat → Prop} {K : Nat → Int32} (h : CV M K) (hF : Fr S M M1) (hs : ∀ a k, S a k → a = 0 ∨ 9 ≤ a ∨ (a = 1 ∧ (k < 8 ∨ 12 < k))) : CV M1 K := by
  have e : ∀ a k, 2 ≤ a → a ≤ 8 → mI M1 a k = mI M a k := fun a k h1 h2 => hF.i (fun q => by have := hs a k q; omega)
  have e1 : ∀ k, 8 ≤ k → k ≤ 12 → mI M1 1 k = mI M 1 k := fun k h1 h2 => hF.i (fun q => by have := hs 1 k q; omega)
  refine ⟨fun t ht => ?_, ?_, fun n g h1 h2 h3 => ?_⟩
  · rw [e 2 t (by omega) (by omega), e 3 t (by omega) (by omega), e 4 t (by omega) (by omega)]
    exact h.1 t ht
  · unfold CVo
    rw [e1 8 (by omega) (by omega), e1 9 (by omega) (by omega), e1 10 (by omega) (by omega), e1 11 (by omega) (by omega), e1 12 (by omega) (by omega)]
    exact h.2.1
  · rw [e 5 g (by omega) (by omega), e 6 g (by omega) (by omega), e 7 g (by omega) (by omega), e 8 g (by omega) (by omega)]
    exact h.2.2 n g h1 h2 h3
def Srf (a k : Nat) : Prop := (a = 0 ∧ k = 12) ∨ a = 45 ∨ (a = 47 ∧ (k = 0 ∨ k = 1)) ∨ a = 48
theorem fr_rf {M : Mem} {n : Nat} : Fr Srf M (RFM (RFC M n) n) := by
  unfold RFM
  have h1 : Fr Srf M (RFC M n) := (Fr.rf.wI (Or.inl ⟨rfl, rfl⟩)).wI (Or.inr (Or.inl rfl))
  exact (h1.wI (Or.inr (Or.inr (Or.inl ⟨rfl, Or.inl rfl⟩)))).wI (Or.inr (Or.inr (Or.inr rfl)))
theorem OUTS.refuse {M : Mem} (h : OUTS M) {n : Nat} (hn : RN n) : OUTS (RFM (RFC M n) n) := by
  unfold RFM RFC
  refine ⟨?_, fun m hm => ?_⟩
  · rw [mI_wI_row (by decide), mI_wI_row (by decide), mI_wI_row (by decide), mI_wIs, mI_wI_row (by decide), mI_wIs]
  · rw [mI_wI_row (b := 45) (by decide), mI_wI_row (b := 45) (by decide)]
    by_cases e : m = n
    · subst e
      rw [mI_wIs, mI_wIs, h.2 m hm, mI_wI_row (by decide), mI_wI_row (by decide)]
    · rw [mI_wI_ne (fun q => e (cid_inj hm hn q)), mI_wI_ne e, mI_wI_row (by decide), mI_wI_row (by decide), mI_wI_row (by decide), mI_wI_row (by decide)]
      exact h.2 m hm
theorem REL.refuse {M : Mem} (h : REL M) {n : Nat} (hn : RN n) : REL (RFM (RFC M n) n) := by
  obtain ⟨hC, hM, hK, hV, hO⟩ := h
  have hF := fr_rf (M := M) (n := n)
  have eK : mI (RFM (RFC M n) n) 49 = mI M 49 := funext (fun k => hF.i (by unfold Srf; omega))
  refine ⟨hC.fr hF, hM.fr hF, by rw [eK]; exact hK, ?_, hO.refuse hn⟩
  rw [eK]
  exact hV.fr hF (fun a k q => by unfold Srf at q; omega)
/-- one thing of a kept row changed -/
theorem KTH.put {K K1 : Nat → Int32} (h : KTH K) {t w : Nat} {v : Int32} (ht : t < 6) (hw : w ≤ 2) (hv : VO (nI t) (nI w) v) (hK : ∀ k, K1 k = if k = 6 * w + t then v else K k) : KTH K1 := by
  intro u hu
  obtain ⟨a1, a2, a3⟩ := h u hu
  have w012 : w = 0 ∨ w = 1 ∨ w = 2 := by omega
  rw [hK, hK, hK]
  rcases w012 with e | e | e <;> subst e
  · rw [if_neg (show ¬ 6 + u = 6 * 0 + t by omega), if_neg (show ¬ 12 + u = 6 * 0 + t by omega)]
    refine ⟨?_, a2, a3⟩
    split
    · rcases hv with ⟨_, q1, q2⟩ | ⟨q, _⟩ | ⟨q, _⟩
      · obtain ⟨z, hz, hz2⟩ := nat_of q1
        subst hz
        rw [show (9 : Int32) = nI 9 from rfl, nleI hz2 (by omega)] at q2
        exact ⟨z, q2, rfl⟩
      · exact absurd q (by decide)
      · exact absurd q (by decide)
    · exact a1
  · rw [if_neg (show ¬ u = 6 * 1 + t by omega), if_neg (show ¬ 12 + u = 6 * 1 + t by omega)]
    refine ⟨a1, ?_, a3⟩
    split
    · rcases hv with ⟨q, _⟩ | ⟨_, q⟩ | ⟨q, _⟩
      · exact absurd q (by decide)
      · exact q
      · exact absurd q (by decide)
    · exact a2
  · rw [if_neg (show ¬ u = 6 * 2 + t by omega), if_neg (show ¬ 6 + u = 6 * 2 + t by omega)]
    refine ⟨a1, a2, ?_⟩
    split
    · rename_i hu2
      have : u = t := by omega
      subst this
      rcases hv with ⟨q, _⟩ | ⟨q, _⟩ | ⟨_, q1, q2⟩
      · exact absurd q (by decide)
      · exact absurd q (by decide)
      · rcases q2 with q2 | q2
        · exact Or.inl q2
        · obtain ⟨z, hz, hz2⟩ := th_nat q2
          subst hz2
          exact Or.inr ⟨z, hz, fun e => q1 (by rw [e]), rfl⟩
    · exact a3
/-- a kept row that differs only in its things -/
theorem KOK.things {K K1 : Nat → Int32} (h : KOK K) (hT : KTH K1) (hK : ∀ k, 18 ≤ k → K1 k = K k) : KOK K1 := by
  obtain ⟨_, h2, h3, h4⟩ := h
  refine ⟨hT, ?_, ?_, ?_⟩
  · unfold KTM
    rw [hK 54 (by omega), hK 55 (by omega)]
    exact h2
  · unfold KLW
    rw [hK 57 (by omega), hK 58 (by omega)]
    exact h3
  · unfold KHS
    rw [hK 56 (by omega)]
    obtain ⟨n, a, b, c⟩ := h4
    refine ⟨n, a, b, fun g hg => ?_⟩
    rw [hK (18 + 3 * g) (by omega), hK (19 + 3 * g) (by omega), hK (20 + 3 * g) (by omega)]
    exact c g hg
