/-! the reference reads whole TEXTS -/
noncomputable def rrB : Mem × Int32 → Option ((Mem × Int32) ⊕ Mem) := (fun s28 => Option.bind (f_X12_sign 59) (fun q37 => Option.bind (f_X12_takes0 s28.1 47 q37) (fun q40 => if q40.2 = 0 then (some (.inr q40.1)) else (bv (fun (s46 : Mem) => Option.bind (f_X12_fine s46 47) (fun q50 => bv (fun (s54 : Mem) => bv (s28.2 + 1 : Int32) (fun x58 => some (.inl (s54, x58)))) (fun j53 => if q50 = 0 then (j53 s46) else (Option.bind (f_X12_readOne s46 47) (fun q59 => j53 q59))))) (fun j45 => if s28.2 = 12 then (Option.bind (f_X12_faults q40.1 47) (fun q64 => j45 q64)) else (j45 q40.1))))))
/-- what the whole of a text comes to, for the reference: the fault's place, or none -/
def tlR {α : Type} (r : Nat ⊕ α) : Option Nat := match r with
  | .inl j => some j
  | .inr _ => none
def RTQ (M : Mem) (T : Nat → Nat) (len : Nat) (pl : Nat → Nat) (ord : Bool) (r : Option Nat) (M2 : Mem) : Prop := Fr Srp M M2 ∧ match r with
  | some j => (mI M2 47 25 = nI (pl j) ∧ pl j < 2147483648) ∨ ∃ p, RPS M2 T len pl ord j p ∧ j < len
  | none => ∃ p, RPS M2 T len pl ord len p
section
variable {T : Nat → Nat} {len : Nat} {pl : Nat → Nat} {ord : Bool}
theorem rr_bad {M : Mem} {n : Int32} (h : BAD M) : rrB (M, n) = some (.inr M) := by
  unfold rrB f_X12_sign
  simp only [Option.bind_some, r_takes_n h, if_true]
def tlX (ord : Bool) (T : Nat → Nat) (m k p u : Nat) : Option Nat := if T k = 256 then none else if T k = 59 then tlR (pRd ord T m (k + 1) p u) else some k
theorem r_readsL (hT : ∀ j, len ≤ j → T j = 256) (hT2 : ∀ j, j < len → T j ≠ 256) {M : Mem} : ∀ m n k p u M1, n + m = 12 → p ≤ 50 → u ≤ k → Fr Srp M M1 → RPS M1 T len pl ord k p → TT (loopO rrB (M1, nI n)) (RTQ M T len pl ord (tlX ord T m k p u)) := by
  intro m
  induction m with
  | zero =>
    intro n k p u M1 hn hp hu hF h
    have t59 : f_X12_takes0 M1 47 (100 + 59) = some (if rc (T k) = 159 then (ADV M1 k, 1) else (M1, 0)) := r_takes_y h (c := 159) (by decide)
    have c59 : rc (T k) = 159 ↔ T k = 59 := sgc 59 (by decide)
    have hk := h.2.2.2.2.2.2.2.2.1
    unfold tlX
    by_cases q : T k = 59
    · have hkl := lt_of_T hT q (by decide)
      have h1 := h.adv hkl
      have e : rrB (M1, nI n) = some (.inl (FLT (ADV M1 k) pl (k + 1), nI (n + 1))) := by
        unfold rrB f_X12_sign
        simp only [Option.bind_some, t59, bv, nsucc]
        rw [if_pos (c59.mpr q), if_neg (show ¬ (1 : Int32) = 0 by decide), if_pos (show nI n = 12 by rw [show n = 12 by omega]; rfl), r_faults_y h1, Option.bind_some, r_fine_n (bad_flt h1), Option.bind_some, if_pos rfl]
      rw [loopO_eq, e]
      simp only
      rw [loopO_eq, rr_bad (bad_flt h1), if_neg (show ¬ T k = 256 by omega), if_pos q]
      have := RPQ_flt h1 (hF.tr fr_adv)
      exact ⟨_, rfl, this.1, Or.inl this.2⟩
    · have e : rrB (M1, nI n) = some (.inr M1) := by
        unfold rrB f_X12_sign
        simp only [Option.bind_some, t59, bv, nsucc]
        rw [if_neg (fun w => q (c59.mp w)), if_pos rfl]
      rw [loopO_eq, e, if_neg q]
      by_cases q2 : T k = 256
      · rw [if_pos q2]
        have : k = len := by
          rcases Nat.lt_or_ge k len with w | w
          · exact absurd q2 (hT2 k w)
          · omega
        subst this
        exact ⟨_, rfl, hF, p, h⟩
      · rw [if_neg q2]
        exact ⟨_, rfl, hF, Or.inr ⟨p, h, lt_of_T hT (t := T k) rfl q2⟩⟩
  | succ m ih =>
    intro n k p u M1 hn hp hu hF h
    have t59 : f_X12_takes0 M1 47 (100 + 59) = some (if rc (T k) = 159 then (ADV M1 k, 1) else (M1, 0)) := r_takes_y h (c := 159) (by decide)
    have c59 : rc (T k) = 159 ↔ T k = 59 := sgc 59 (by decide)
    have hk := h.2.2.2.2.2.2.2.2.1
    by_cases q : T k = 59
    · have hkl := lt_of_T hT q (by decide)
      have h1 := h.adv hkl
      obtain ⟨M2, e2, a1, a2⟩ := r_one (u := u) hT h1 hp (by omega)
      have e : rrB (M1, nI n) = some (.inl (M2, nI (n + 1))) := by
        unfold rrB f_X12_sign
        simp only [Option.bind_some, t59, bv, nsucc]
        rw [if_pos (c59.mpr q), if_neg (show ¬ (1 : Int32) = 0 by decide), if_neg (show ¬ nI n = 12 from fun w => by have := (eL (t := n) (by omega) 12 (by decide)).mp w; omega), r_fine_y h1, Option.bind_some, if_neg (show ¬ (1 : Int32) = 0 by decide), e2, Option.bind_some]
      have gc := G_Cl hT (ord := ord) (k := k + 1) (u := u) hp hkl (by omega)
      rw [loopO_eq, e]
      unfold tlX
      rw [if_neg (show ¬ T k = 256 by omega), if_pos q, pRd]
      simp only
      cases hc : pCl ord T (k + 1) p u with
      | inl j =>
        rw [hc] at a2
        have hbad : BAD M2 := bad_of h1.1 a1 a2
        rw [loopO_eq, rr_bad hbad]
        exact ⟨_, rfl, (hF.tr fr_adv).tr a1, Or.inl a2⟩
      | inr x =>
        rw [hc] at a2 gc
        obtain ⟨g1, g2, g3, g4, g5⟩ := gc
        have key := ih (n + 1) x.1 x.2.1 (u + x.2.2.1.length) M2 (by omega) g4 g5 ((hF.tr fr_adv).tr a1) a2
        refine key.mono ?_
        intro M3 hM3
        unfold tlX at hM3
        simp only
        by_cases w1 : T x.1 = 256
        · rw [if_pos w1] at hM3 ⊢
          exact hM3
        · rw [if_neg w1] at hM3 ⊢
          by_cases w2 : T x.1 = 59
          · rw [if_pos w2] at hM3 ⊢
            cases hr : pRd ord T m (x.1 + 1) x.2.1 (u + x.2.2.1.length) with
            | inl j => rw [hr] at hM3; exact hM3
            | inr z => rw [hr] at hM3; exact hM3
          · rw [if_neg w2] at hM3 ⊢
            exact hM3
    · have e : rrB (M1, nI n) = some (.inr M1) := by
        unfold rrB f_X12_sign
        simp only [Option.bind_some, t59, bv, nsucc]
        rw [if_neg (fun w => q (c59.mp w)), if_pos rfl]
      rw [loopO_eq, e]
      unfold tlX
      rw [if_neg q]
      by_cases q2 : T k = 256
      · rw [if_pos q2]
        have : k = len := by
          rcases Nat.lt_or_ge k len with w | w
          · exact absurd q2 (hT2 k w)
          · omega
        subst this
        exact ⟨_, rfl, hF, p, h⟩
      · rw [if_neg q2]
        exact ⟨_, rfl, hF, Or.inr ⟨p, h, lt_of_T hT (t := T k) rfl q2⟩⟩
/-- behind cutting the tokens -/
theorem r_readsT (hT : ∀ j, len ≤ j → T j = 256) (hT2 : ∀ j, j < len → T j ≠ 256) {M : Mem} (h : RPS M T len pl ord 0 0) (h22 : mI M 47 22 = nI len) : TT (Option.bind (f_X12_readOne M 47) (fun q23 => Option.bind (loopO rrB (q23, 1)) (fun (x35 : Mem) => Option.bind (f_X12_fine x35 47) (fun q70 => bv (fun (s74 : Mem) => bv (wI s74 47 18 (mI s74 47 25)) (fun M78 => Option.bind (f_X12_fine M78 47) (fun q82 => grd (bl q82) (some (M78, q82))))) (fun j73 => if q70 = 0 then (j73 x35) else (if (mI x35 47 22) ≤ (mI x35 47 23) then (j73 x35) else (Option.bind (f_X12_faults x35 47) (fun q86 => j73 q86)))))))) (fun q => Fr (fun a k => Srp a k ∨ (a = 47 ∧ k = 18)) M q.1 ∧ match tlR (pRd ord T 12 0 0 0) with
    | some j => q.2 = 0 ∧ mI q.1 47 18 = nI (pl j)
    | none => q.2 = 1 ∧ mI q.1 47 18 = -1) := by
  obtain ⟨M1, e1, a1, a2⟩ := r_one (u := 0) hT h (by omega) (by omega)
  rw [e1, Option.bind_some]
  -- the end
  have fin : ∀ M2 r, RTQ M T len pl ord r M2 → TT (Option.bind (f_X12_fine M2 47) (fun q70 => bv (fun (s74 : Mem) => bv (wI s74 47 18 (mI s74 47 25)) (fun M78 => Option.bind (f_X12_fine M78 47) (fun q82 => grd (bl q82) (some (M78, q82))))) (fun j73 => if q70 = 0 then (j73 M2) else (if (mI M2 47 22) ≤ (mI M2 47 23) then (j73 M2) else (Option.bind (f_X12_faults M2 47) (fun q86 => j73 q86)))))) (fun q => Fr (fun a k => Srp a k ∨ (a = 47 ∧ k = 18)) M q.1 ∧ match r with
      | some j => q.2 = 0 ∧ mI q.1 47 18 = nI (pl j)
      | none => q.2 = 1 ∧ mI q.1 47 18 = -1) := by
    rintro M2 r ⟨hF, hr⟩
    have hM2 := h.1.fr hF
    have badE : ∀ M3 j, Fr Srp M M3 → (mI M3 47 25 = nI (pl j) ∧ pl j < 2147483648) → TT (Option.bind (f_X12_fine (wI M3 47 18 (mI M3 47 25)) 47) (fun q82 => grd (bl q82) (some (wI M3 47 18 (mI M3 47 25), q82)))) (fun q => Fr (fun a k => Srp a k ∨ (a = 47 ∧ k = 18)) M q.1 ∧ q.2 = 0 ∧ mI q.1 47 18 = nI (pl j)) := by
      intro M3 j hF3 hb
      have hbd : BAD (wI M3 47 18 (mI M3 47 25)) := ⟨(h.1.fr hF3).w, by rw [mI_wI_ne (by decide), hb.1]; exact nne_m1 hb.2⟩
      rw [r_fine_n hbd, Option.bind_some, grd_y (show bl 0 from rfl), TT_some]
      exact ⟨(hF3.up (fun a k w => Or.inl w)).wI (Or.inr ⟨rfl, rfl⟩), rfl, by rw [mI_wIs, hb.1]⟩
    cases r with
    | some j =>
      rcases hr with hr | ⟨p, hr, hj⟩
      · rw [r_fine_n ⟨hM2, by rw [hr.1]; exact nne_m1 hr.2⟩, Option.bind_some]
        simp only [bv, if_true]
        exact badE M2 j hF hr
      · have e22 : mI M2 47 22 = nI len := by rw [hF.i (by unfold Srp; omega)]; exact h22
        have e23 : mI M2 47 23 = nI j := hr.2.2.2.2.2.1
        have hlen := h.2.1
        rw [r_fine_y hr, Option.bind_some]
        simp only [bv]
        rw [if_neg (show ¬ (1 : Int32) = 0 by decide), e22, e23, if_neg (fun w => by have := (nleI (by omega) (by omega)).mp w; omega), r_faults_y hr, Option.bind_some]
        have fl := RPQ_flt hr hF
        exact badE (FLT M2 pl j) j fl.1 fl.2
    | none =>
      obtain ⟨p, hr⟩ := hr
      have e22 : mI M2 47 22 = nI len := by rw [hF.i (by unfold Srp; omega)]; exact h22
      have e23 : mI M2 47 23 = nI len := hr.2.2.2.2.2.1
      have e25 : mI M2 47 25 = -1 := hr.2.2.2.2.2.2.2.1
      have hlen := h.2.1
      rw [r_fine_y hr, Option.bind_some]
      simp only [bv]
      rw [if_neg (show ¬ (1 : Int32) = 0 by decide), e22, e23, if_pos ((nleI (by omega) (by omega)).mpr (Nat.le_refl _))]
      have hM3 : LayM (wI M2 47 18 (mI M2 47 25)) := hM2.w
      have f1 : f_X12_fine (wI M2 47 18 (mI M2 47 25)) 47 = some 1 := by
        unfold LayM at hM3
        unfold f_X12_fine
        simp only [hM3, grd_T]
        rw [mI_wI_ne (by decide), if_pos e25]
      rw [f1, Option.bind_some, grd_y (show bl 1 from rfl), TT_some]
      exact ⟨(hF.up (fun a k w => Or.inl w)).wI (Or.inr ⟨rfl, rfl⟩), rfl, by rw [mI_wIs, e25]⟩
  have gc := G_Cl hT (ord := ord) (k := 0) (p := 0) (u := 0) (by omega) (by omega) (by omega)
  rw [pRd]
  cases hc : pCl ord T 0 0 0 with
  | inl j =>
    rw [hc] at a2
    have hbad : BAD M1 := bad_of h.1 a1 a2
    rw [loopO_eq, rr_bad hbad]
    exact fin M1 (some j) ⟨a1, Or.inl a2⟩
  | inr x =>
    rw [hc] at a2 gc
    obtain ⟨g1, g2, g3, g4, g5⟩ := gc
    rw [TT_bind]
    refine (r_readsL (u := 0 + x.2.2.1.length) hT hT2 11 1 x.1 x.2.1 M1 (by omega) g4 g5 a1 a2).mono ?_
    intro M2 hM2
    have key := fin M2 _ hM2
    have er : tlX ord T 11 x.1 x.2.1 (0 + x.2.2.1.length) = tlR (if T x.1 = 256 then (.inr ([x.2.2.2], x.2.2.1) : Nat ⊕ (List CL × List Nat)) else if T x.1 = 59 then (match pRd ord T 11 (x.1 + 1) x.2.1 (0 + x.2.2.1.length) with
        | .inl j => .inl j
        | .inr r => .inr (x.2.2.2 :: r.1, x.2.2.1 ++ r.2)) else .inl x.1) := by
      unfold tlX
      by_cases w1 : T x.1 = 256
      · rw [if_pos w1, if_pos w1]; rfl
      · rw [if_neg w1, if_neg w1]
        by_cases w2 : T x.1 = 59
        · rw [if_pos w2, if_pos w2]
          cases pRd ord T 11 (x.1 + 1) x.2.1 (0 + x.2.2.1.length) <;> rfl
        · rw [if_neg w2, if_neg w2]; rfl
    rw [er] at key
    exact key
end
