/-! which word it is, for the reference -/
def RWB (M : Mem) : Prop := ∀ i, i < 130 → mI M 55 i = nI ((joinW rW).getD i 0)
theorem sgB_eq {c b : Nat} (hc : c < 128) (hb : b < 256) : (nI c = sgB b) ↔ b = c := by
  unfold sgB
  by_cases h : b < 128
  · rw [if_pos h, neqI (by omega) (by omega)]
    omega
  · rw [if_neg h, nI_ii, ii_inj ⟨by omega, by omega⟩ ⟨by omega, by omega⟩]
    omega
section
variable {M : Mem} {n : Nat} {bt : Nat → Nat}
noncomputable def rwB (M : Mem) (p1 p2 : Int32) : Int32 × Int32 → Option ((Int32 × Int32) ⊕ (Unit ⊕ Int32)) := (fun s1 => grd (okO M 12 47) (Option.bind (mR M 47 13) (fun r14 => grd (okO M 13 r14) (if (nI (mL M r14)) ≤ s1.2 then (some (.inr (.inl ()))) else (Option.bind (loopO (σ := Int32) (ρ := Int32) (fun s16 => Option.bind (mR M 47 13) (fun r24 => grd (okO M 13 r24) (grd (vp_in (s1.2 + s16) (mL M r24)) (if (mI M r24 (s1.2 + s16).toNatClampNeg) = 32 then (some (.inr s16)) else (bv (s16 + 1 : Int32) (fun x27 => some (.inl x27))))))) 0) (fun (x22 : Int32) => bv (fun (s29 : Int32) => Option.bind (loopO (σ := Int32 × Int32) (ρ := Int32) (fun s32 => if x22 ≤ s32.2 then (some (.inr s32.1)) else (if s32.1 = 0 then (some (.inr s32.1)) else (Option.bind (mR M 47 13) (fun r40 => grd (okO M 13 r40) (grd (vp_in (s1.2 + s32.2) (mL M r40)) (Option.bind (mR M 47 15) (fun r43 => grd (okO M 13 r43) (grd (vp_in (p1 + s32.2) (mL M r43)) (bv (fun (s47 : Int32) => bv (s32.2 + 1 : Int32) (fun x50 => some (.inl (s47, x50)))) (fun j46 => if (mI M r40 (s1.2 + s32.2).toNatClampNeg) = (mI M r43 (p1 + s32.2).toNatClampNeg) then (j46 1) else (j46 0))))))))))) (s29, 0)) (fun (x38 : Int32) => if x38 = 0 then (bv (s1.2 + (x22 + 1) : Int32) (fun x51 => bv (s1.1 + 1 : Int32) (fun x52 => some (.inl (x52, x51))))) else (some (.inr (.inr s1.1))))) (fun j28 => if x22 = (p2 - p1) then (j28 1) else (j28 0))))))))
theorem r_words (hM : LayM M) (hR : RWB M) (ht : TAPR M n bt) {a b : Nat} (hab : a ≤ b) (hbn : b ≤ n) : ∀ (L : List (List Nat)) (o wd : Nat), (∀ w ∈ L, w ∈ rW) → o + (joinW L).length = 130 → wd + L.length ≤ 284 → (∀ i, o + i < 130 → (joinW rW).getD (o + i) 0 = (joinW L).getD i 0) → TT (loopO (rwB M (nI a) (nI b)) (nI wd, nI o)) (fun r => r = fnR (fndW L (slB bt a b)) wd)
  | [], o, wd, _, ho, _, _ => by
    have hM2 := hM
    unfold LayM at hM2
    have e : rwB M (nI a) (nI b) (nI wd, nI o) = some (.inr (.inl ())) := by
      unfold rwB
      simp only [hM2, grd_T, Option.bind_some]
      rw [if_pos (show nI 130 ≤ nI o by rw [show o = 130 by simpa [joinW] using ho]; decide)]
    rw [loopO_eq, e]
    exact ⟨_, rfl, rfl⟩
  | w :: r, o, wd, hL, ho, hwd, htx => by
    have hM2 := hM
    unfold LayM at hM2
    have hj : (joinW (w :: r)).length = w.length + 1 + (joinW r).length := by
      rw [joinW, List.length_append, List.length_cons]
      omega
    rw [hj] at ho
    have hok := rW_ok w (hL w List.mem_cons_self)
    have gw : ∀ i, i < w.length → (joinW (w :: r)).getD i 0 = w.getD i 0 := by
      intro i hi
      rw [joinW, List.getD_eq_getElem?_getD, List.getElem?_append_left hi, List.getD_eq_getElem?_getD]
    have gs : (joinW (w :: r)).getD w.length 0 = 32 := by
      rw [joinW, List.getD_eq_getElem?_getD, List.getElem?_append_right (Nat.le_refl _), Nat.sub_self]
      rfl
    have gr : ∀ i, (joinW (w :: r)).getD (w.length + 1 + i) 0 = (joinW r).getD i 0 := by
      intro i
      rw [joinW, List.getD_eq_getElem?_getD, List.getElem?_append_right (by omega), show w.length + 1 + i - w.length = i + 1 by omega, List.getElem?_cons_succ, List.getD_eq_getElem?_getD]
    have cell : ∀ i, i < w.length → mI M 55 (o + i) = nI (w.getD i 0) := fun i hi => by rw [hR (o + i) (by omega), htx i (by omega), gw i hi]
    have cels : mI M 55 (o + w.length) = nI 32 := by rw [hR _ (by omega), htx _ (by omega), gs]
    have hsl := slB_len (bt := bt) (a := a) (b := b)
    have h400 := ht.1
    have eba : nI b - nI a = nI (b - a) := nsub hab
    -- how long the word is
    have hlen : loopO (σ := Int32) (ρ := Int32) (fun s16 => grd (vp_in (nI o + s16) 130) (if (mI M 55 (nI o + s16).toNatClampNeg) = 32 then (some (.inr s16)) else (some (.inl (s16 + 1))))) 0 = some (nI w.length) := by
      apply TT.is
      refine TT_for w.length (fun j s => s = nI j) ?_ (Nat.zero_le _) rfl
      rintro j _ hj rfl
      rw [nadd, grd_y ((nvp (by omega)).mpr (by omega)), nclampI (by omega)]
      by_cases q : j = w.length
      · subst q
        rw [cels, if_pos (show nI 32 = 32 from rfl), TT_some]
        rfl
      · have c1 := hok _ (getD_mem (show j < w.length by omega))
        rw [cell j (by omega), if_neg (show ¬ nI (w.getD j 0) = 32 from fun e => c1.1 ((eL (by omega) 32 (by decide)).mp e)), TT_some]
        exact ⟨by omega, nsucc j⟩
    -- whether it is the same
    have hcmp : loopO (σ := Int32 × Int32) (ρ := Int32) (fun s32 => if nI w.length ≤ s32.2 then (some (.inr s32.1)) else (if s32.1 = 0 then (some (.inr s32.1)) else (grd (vp_in (nI o + s32.2) 130) (grd (vp_in (nI a + s32.2) 400) (if (mI M 55 (nI o + s32.2).toNatClampNeg) = (mI M 56 (nI a + s32.2).toNatClampNeg) then (some (.inl (1, s32.2 + 1))) else (some (.inl (0, s32.2 + 1)))))))) (b1 (decide (w.length = b - a)), 0) = some (b1 (decide (slB bt a b = w))) := by
      apply TT.is
      have fullE : decide (slB bt a b = w) = (decide (w.length = b - a) && eqP (slB bt a b) w w.length) := by
        by_cases q : slB bt a b = w
        · have := eqP_full.mpr q
          rw [decide_eq_true q, this.1, decide_eq_true (by rw [this.2, hsl])]
          rfl
        · rw [decide_eq_false q]
          by_cases q2 : w.length = b - a
          · rw [decide_eq_true q2, Bool.true_and]
            cases hE : eqP (slB bt a b) w w.length with
            | false => rfl
            | true => exact absurd (eqP_full.mp ⟨hE, by rw [hsl]; exact q2⟩) q
          · rw [decide_eq_false q2]
            rfl
      rw [fullE]
      refine TT_for w.length (fun j s => s = (b1 (decide (w.length = b - a) && eqP (slB bt a b) w j), nI j)) ?_ (Nat.zero_le _) (by simp [eqP]; rfl)
      rintro j _ hj rfl
      rw [TT_if, nleI (by omega) (by omega)]
      refine ⟨fun q => ?_, fun q => ?_⟩
      · obtain rfl : j = w.length := by omega
        rw [TT_some]
        rfl
      · simp only
        cases hX : (decide (w.length = b - a) && eqP (slB bt a b) w j) with
        | false =>
          rw [if_pos (show b1 false = 0 from rfl), TT_some]
          show b1 false = _
          have : (decide (w.length = b - a) && eqP (slB bt a b) w w.length) = false := by
            rw [Bool.and_eq_false_iff] at hX ⊢
            rcases hX with hX | hX
            · exact Or.inl hX
            · refine Or.inr ?_
              have mono : ∀ m, j + m ≤ w.length → eqP (slB bt a b) w (j + m) = false := by
                intro m
                induction m with
                | zero => intro _; exact hX
                | succ m ihm =>
                  intro hm
                  rw [← Nat.add_assoc, eqP_succ (by omega), ihm (by omega)]
                  rfl
              have := mono (w.length - j) (by omega)
              rw [show j + (w.length - j) = w.length by omega] at this
              exact this
          rw [this]
        | true =>
          rw [Bool.and_eq_true] at hX
          have hlb : w.length = b - a := by simpa using hX.1
          have c1 := hok _ (getD_mem (show j < w.length by omega))
          have hb1 := ht.2.2.2 (a + j) (by omega)
          have eg : (slB bt a b).getD j 0 = bt (a + j) := by rw [List.getD_eq_getElem?_getD, slB_get (by omega)]; rfl
          rw [if_neg (show ¬ b1 true = 0 by decide), nadd, nadd, grd_y ((nvp (by omega)).mpr (by omega)), grd_y ((nvp (by omega)).mpr (by omega)), nclampI (by omega), nclampI (by omega), cell j (by omega), hb1.2.2, TT_if, sgB_eq c1.2 hb1.1, TT_some, TT_some, eqP_succ (by omega), hX.1, hX.2, decide_eq_true (show j < (slB bt a b).length by rw [hsl]; omega), eg]
          refine ⟨fun e => ⟨by omega, by rw [decide_eq_true e, nsucc]; rfl⟩, fun e => ⟨by omega, by rw [decide_eq_false e, nsucc]; rfl⟩⟩
    have step : rwB M (nI a) (nI b) (nI wd, nI o) = if slB bt a b = w then some (.inr (.inr (nI wd))) else some (.inl (nI (wd + 1), nI (o + w.length + 1))) := by
      unfold rwB
      simp only [hM2, grd_T, Option.bind_some, bv, eba]
      rw [if_neg (show ¬ nI 130 ≤ nI o from fun e => by have := (nleI (a := 130) (by decide) (by omega)).mp e; omega), hlen, Option.bind_some]
      have e2 : ∀ z : Bool, z = decide (w.length = b - a) → (Option.bind (loopO (σ := Int32 × Int32) (ρ := Int32) (fun s32 => if nI w.length ≤ s32.2 then (some (.inr s32.1)) else (if s32.1 = 0 then (some (.inr s32.1)) else (grd (vp_in (nI o + s32.2) 130) (grd (vp_in (nI a + s32.2) 400) (if (mI M 55 (nI o + s32.2).toNatClampNeg) = (mI M 56 (nI a + s32.2).toNatClampNeg) then (some (.inl (1, s32.2 + 1))) else (some (.inl (0, s32.2 + 1)))))))) (b1 z, 0)) (fun (x38 : Int32) => if x38 = 0 then (some (.inl (nI wd + 1, nI o + (nI w.length + 1)))) else (some (.inr (.inr (nI wd)))))) = (if slB bt a b = w then (some (.inr (.inr (nI wd))) : Option ((Int32 × Int32) ⊕ (Unit ⊕ Int32))) else some (.inl (nI (wd + 1), nI (o + w.length + 1)))) := by
        rintro z rfl
        rw [hcmp, Option.bind_some, nsucc, nsucc, nadd, ← Nat.add_assoc]
        by_cases q : slB bt a b = w
        · rw [decide_eq_true q, if_pos q, if_neg (show ¬ b1 true = 0 by decide)]
        · rw [decide_eq_false q, if_neg q, if_pos (show b1 false = 0 from rfl)]
      by_cases q : w.length = b - a
      · rw [if_pos (show nI w.length = nI (b - a) by rw [q])]
        exact e2 true (decide_eq_true q).symm
      · rw [if_neg (fun e => q ((neqI (by omega) (by omega)).mp e))]
        exact e2 false (decide_eq_false q).symm
    rw [loopO_eq, step, fndW]
    by_cases q : slB bt a b = w
    · rw [if_pos q, if_pos q]
      exact ⟨_, rfl, rfl⟩
    · rw [if_neg q, if_neg q]
      have h2 := r_words hM hR ht hab hbn r (o + w.length + 1) (wd + 1) (fun x hx => hL x (List.mem_cons_of_mem _ hx)) (by omega) (by simp only [List.length_cons] at hwd; omega) (fun i hi => by rw [show o + w.length + 1 + i = o + (w.length + 1 + i) by omega, htx _ (by omega), gr])
      refine h2.mono ?_
      rintro x rfl
      cases fndW r (slB bt a b) with
      | none => rfl
      | some i =>
        show Sum.inr (nI (wd + 1 + i)) = Sum.inr (nI (wd + (i + 1)))
        rw [show wd + 1 + i = wd + (i + 1) by omega]
theorem r_wordOf (hM : LayM M) (hR : RWB M) (ht : TAPR M n bt) {a b : Nat} (hab : a ≤ b) (hbn : b ≤ n) : f_X12_wordOf M 47 (nI a) (nI b) = some (nI (wRef (slB bt a b))) := by
  apply TT.is
  show TT (Option.bind (loopO (rwB M (nI a) (nI b)) (nI 1, nI 0)) (Sum.elim (fun (x9 : Unit) => some 0) (fun (x11 : Int32) => some x11))) _
  rw [TT_bind]
  refine (r_words hM hR ht hab hbn rW 0 1 (fun w hw => hw) (by rw [rW_len]) (by decide) (fun i hi => by rw [Nat.zero_add])).mono ?_
  rintro x rfl
  unfold wRef
  cases fndW rW (slB bt a b) with
  | none =>
    show TT (some _) _
    rw [TT_some]
    rfl
  | some i =>
    show TT (some _) _
    rw [TT_some]
end
