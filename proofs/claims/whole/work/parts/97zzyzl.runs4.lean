/-! ORDERS: the reference runs all CLAUSES -/
noncomputable def orL (K : Nat → Int32) : List OSM → Nat → OST → (Nat × Nat) ⊕ OST
  | [], _, s => .inr s
  | o :: r, i, s => match orT K o o.2.1 s with
    | .inl e => .inl (i, e)
    | .inr s' => orL K r (i + 1) s'
noncomputable def ordC (a0 : Nat) (x43 : Int32) (s44 : Mem × Int32) : Option ((Mem × Int32) ⊕ (Mem ⊕ (Mem × Int32 × Int32))) := if x43 ≤ (mI s44.1 a0 49) then (some (.inr (.inl s44.1))) else (Option.bind (f_X12_runs s44.1 a0 x43) (fun q57 => if q57.2 = 0 then (bv (s44.2 + 1 : Int32) (fun x62 => some (.inl (q57.1, x62)))) else (some (.inr (.inr (q57.1, s44.2, q57.2))))))
noncomputable def ordF (a0 : Nat) (x18 x22 : Int32) (x55 : Mem × Int32 × Int32) : Option (Mem × Int32) := Option.bind (mR x55.1 a0 3) (fun r70 => grd (okO x55.1 14 r70) (grd (vp_in 56 (mL x55.1 r70)) (bv (wI x55.1 r70 (56 : Int32).toNatClampNeg x18) (fun M73 => Option.bind (mR M73 a0 3) (fun r77 => grd (okO M73 14 r77) (grd (vp_in 54 (mL M73 r77)) (bv (wI M73 r77 (54 : Int32).toNatClampNeg x22) (fun M80 => bv (wI M80 a0 46 x55.2.1) (fun M84 => bv (fun (s89 : Int32) => Option.bind (f_X12_refuses M84 a0 s89) (fun q92 => some (q92.1, q92.2))) (fun j88 => if x55.2.2 = (-5) then (j88 (-5)) else (j88 (-3))))))))))))
noncomputable def ordH (a0 : Nat) (x18 x22 : Int32) (q10 : Mem) : Option (Mem × Int32) := Option.bind (f_X12_lays q10 a0 6) (fun q23 => bv (wI q23 a0 47 0) (fun M28 => bv (wI M28 a0 48 (-1)) (fun M32 => bv (wI M32 a0 49 2400) (fun M36 => Option.bind (mR M36 a0 3) (fun r40 => grd (okO M36 14 r40) (grd (vp_in 65 (mL M36 r40)) (bv ((mI M36 a0 49) + (mI M36 r40 (65 : Int32).toNatClampNeg) : Int32) (fun x43 => Option.bind (loopO (σ := Mem × Int32) (ρ := Mem ⊕ (Mem × Int32 × Int32)) (ordC a0 x43) (M36, 0)) (Sum.elim (fun (x53 : Mem) => Option.bind (f_X12_good x53 a0 (mI x53 a0 47)) (fun q64 => some (q64.1, q64.2))) (ordF a0 x18 x22))))))))))
theorem rorders_eq {M : Mem} {a0 : Nat} : f_X12_orders M a0 = grd (okO M 12 a0) (bv (wI M a0 46 (-1)) (fun M2 => bv (wI M2 a0 14 1) (fun M6 => Option.bind (f_X12_reads M6 a0) (fun q10 => if q10.2 = 0 then (Option.bind (f_X12_refuses q10.1 a0 (-6)) (fun q96 => some (q96.1, q96.2))) else (Option.bind (mR q10.1 a0 3) (fun r15 => grd (okO q10.1 14 r15) (grd (vp_in 56 (mL q10.1 r15)) (bv (mI q10.1 r15 (56 : Int32).toNatClampNeg : Int32) (fun x18 => Option.bind (mR q10.1 a0 3) (fun r19 => grd (okO q10.1 14 r19) (grd (vp_in 54 (mL q10.1 r19)) (bv (mI q10.1 r19 (54 : Int32).toNatClampNeg : Int32) (fun x22 => ordH a0 x18 x22 q10.1))))))))))))) := rfl
def olQ (n0 : Nat) (K0 : Nat → Int32) (T : Nat → Nat) (len : Nat) (M : Mem) (o : (Nat × Nat) ⊕ OST) (z : Mem ⊕ (Mem × Int32 × Int32)) : Prop := match o with
  | .inr s => ∃ M1, z = .inl M1 ∧ Fr (Sob n0) M M1 ∧ ROS n0 K0 T len M1 s
  | .inl e => ∃ M1 r, z = .inr (M1, nI e.1, -(nI r)) ∧ R4 r ∧ e.2 = (if r = 5 then 5 else 3) ∧ Fr (Sob n0) M M1
theorem olQ.of {n0 : Nat} {K0 : Nat → Int32} {T : Nat → Nat} {len : Nat} {M M1 : Mem} {o : (Nat × Nat) ⊕ OST} {z : Mem ⊕ (Mem × Int32 × Int32)} (hF : Fr (Sob n0) M M1) (h : olQ n0 K0 T len M1 o z) : olQ n0 K0 T len M o z := by
  cases o with
  | inr s =>
    obtain ⟨M2, a, b, c⟩ := h
    exact ⟨M2, a, hF.tr b, c⟩
  | inl e =>
    obtain ⟨M2, r, a, b, c, d⟩ := h
    exact ⟨M2, r, a, b, c, hF.tr d⟩
theorem r_ordC {n0 : Nat} {K0 : Nat → Int32} {T : Nat → Nat} {len : Nat} (hk0 : KTH K0) (hl0 : KLW K0) (hT : ∀ j, len ≤ j → T j = 256) (hT2 : ∀ j, j < len → T j ≠ 256) : ∀ os k i M s, ROX T len k os → ROS n0 K0 T len M s → mI M 47 49 = nI (2400 + k) → TT (loopO (ordC 47 (nI (2400 + len))) (M, nI i)) (olQ n0 K0 T len M (orL K0 os i s)) := by
  intro os
  induction os with
  | nil => intro k i M s h; exact h.elim
  | cons o r ih =>
    intro k i M s hx h h49
    obtain ⟨k2, hr, hn⟩ := hx
    have hlen : 2400 + len ≤ 2800 := h.2.1.1
    have h1 := hr.1
    have h2 := hr.2.1
    obtain ⟨⟨M1, c⟩, hz, hq⟩ := r_runs hk0 hl0 hT h h49 hr
    have eb : ordC 47 (nI (2400 + len)) (M, nI i) = if c = 0 then some (.inl (M1, nI (i + 1))) else some (.inr (.inr (M1, nI i, c))) := by
      unfold ordC
      simp only
      rw [h49, if_neg (by rw [nleI (by omega) (by omega)]; omega), hz, Option.bind_some]
      simp only [bv, nsucc]
    rw [loopO_eq, eb]
    unfold orL
    cases ho : orT K0 o o.2.1 s with
    | inr s' =>
      rw [ho] at hq
      obtain ⟨q1, q2, q3, q4⟩ := hq
      simp only at q1 q2 q3 q4
      rw [if_pos q1]
      simp only
      rcases hn with ⟨n1, n2⟩ | ⟨n1, n2⟩
      · subst n2
        have hk : k2 = len := by
          refine Nat.le_antisymm h2 (Nat.le_of_not_lt (fun w => hT2 k2 w n1))
        rw [loopO_eq, show ordC 47 (nI (2400 + len)) (M1, nI (i + 1)) = some (.inr (.inl M1)) from by
          unfold ordC
          rw [if_pos (by show nI (2400 + len) ≤ mI M1 47 49; rw [q3, nleI (by omega) (by omega)]; omega)]]
        exact ⟨_, rfl, M1, rfl, q2, q4⟩
      · exact (ih (k2 + 1) (i + 1) M1 s' n2 q4 q3).mono (fun z hz => hz.of q2)
    | inl e =>
      rw [ho] at hq
      obtain ⟨r', q1, q2, q3, q4⟩ := hq
      simp only at q1 q2 q3 q4
      have hc : ¬ c = 0 := by rw [q1]; rcases q2 with z | z | z | z <;> subst z <;> decide
      rw [if_neg hc]
      exact ⟨_, rfl, M1, r', by rw [q1], q2, q3, q4⟩
