/-! ORDERS: the reference runs one CLAUSE as often as it says -/
noncomputable def orT (K : Nat → Int32) (o : OSM) : Nat → OST → Nat ⊕ OST
  | 0, s => .inr s
  | n + 1, s => match or1s K o s with
    | .inl e => .inl e
    | .inr s' => orT K o n s'
def R4 (r : Nat) : Prop := r = 1 ∨ r = 2 ∨ r = 3 ∨ r = 5
def ordR (n0 : Nat) (K0 : Nat → Int32) (T : Nat → Nat) (len : Nat) (M : Mem) (o : Nat ⊕ OST) (z : Mem ⊕ (Mem ⊕ (Mem × Int32))) : Prop := match o with
  | .inr s => ∃ M1, z = .inl M1 ∧ Fr (Sob n0) M M1 ∧ mI M1 47 49 = mI M 47 49 ∧ ROS n0 K0 T len M1 s
  | .inl e => ∃ M1 r, Fr (Sob n0) M M1 ∧ R4 r ∧ e = (if r = 5 then 5 else 3) ∧ (z = .inr (.inl M1) ∧ r = 3 ∨ z = .inr (.inr (M1, -(nI r))))
theorem ordR.of {n0 : Nat} {K0 : Nat → Int32} {T : Nat → Nat} {len : Nat} {M M1 : Mem} {o : Nat ⊕ OST} {z : Mem ⊕ (Mem ⊕ (Mem × Int32))} (hF : Fr (Sob n0) M M1) (h49 : mI M1 47 49 = mI M 47 49) (h : ordR n0 K0 T len M1 o z) : ordR n0 K0 T len M o z := by
  cases o with
  | inr s =>
    obtain ⟨M2, a, b, c, d⟩ := h
    exact ⟨M2, a, hF.tr b, c.trans h49, d⟩
  | inl e =>
    obtain ⟨M2, r, a, b⟩ := h
    exact ⟨M2, r, hF.tr a, b⟩
theorem r_ordL {n0 : Nat} {K0 : Nat → Int32} {T : Nat → Nat} {len k k2 times : Nat} {o : OSM} (hk0 : KTH K0) (hl0 : KLW K0) (hT : ∀ j, len ≤ j → T j = 256) (hr : ROC T len k k2 o) (hti : times ≤ 20) : ∀ n i M s, i + n = times → ROS n0 K0 T len M s → mI M 47 49 = nI (2400 + k) → TT (loopO (ordB 47 (nI (2400 + len)) (nI times)) (M, nI i)) (ordR n0 K0 T len M (orT K0 o n s)) := by
  intro n
  induction n with
  | zero =>
    intro i M s hi h h49
    rw [loopO_eq, show ordB 47 (nI (2400 + len)) (nI times) (M, nI i) = some (.inr (.inl M)) from by
      unfold ordB
      rw [if_pos (by show nI times ≤ nI i; rw [nleI (by omega) (by omega)]; omega)]]
    exact ⟨_, rfl, M, rfl, Fr.rf, rfl, h⟩
  | succ n ih =>
    intro i M s hi h h49
    obtain ⟨z, hz, hq⟩ := r_ordB (i := i) hk0 hl0 hT h h49 hr (by omega) hti
    rw [loopO_eq, hz]
    unfold orT
    cases ho : or1s K0 o s with
    | inr s' =>
      rw [ho] at hq
      obtain ⟨M1, rfl, f1, e1, h1⟩ := hq
      simp only
      exact (ih (i + 1) M1 s' (by omega) h1 (e1.trans h49)).mono (fun z hz => hz.of f1 e1)
    | inl e =>
      rw [ho] at hq
      obtain ⟨M1, f1, -, he, ⟨rfl, e3⟩ | ⟨r, hr', rfl, e3⟩⟩ := hq
      · exact ⟨_, rfl, M1, 3, f1, by unfold R4; omega, e3, Or.inl ⟨rfl, rfl⟩⟩
      · exact ⟨_, rfl, M1, r, f1, hr', e3, Or.inr rfl⟩
def rnsQ (n0 : Nat) (K0 : Nat → Int32) (T : Nat → Nat) (len k2 : Nat) (M : Mem) (o : Nat ⊕ OST) (q : Mem × Int32) : Prop := match o with
  | .inr s => q.2 = 0 ∧ Fr (Sob n0) M q.1 ∧ mI q.1 47 49 = nI (2400 + k2 + 1) ∧ ROS n0 K0 T len q.1 s
  | .inl e => ∃ r, q.2 = -(nI r) ∧ R4 r ∧ e = (if r = 5 then 5 else 3) ∧ Fr (Sob n0) M q.1
theorem r_runs {n0 : Nat} {K0 : Nat → Int32} {T : Nat → Nat} {len k k2 : Nat} {o : OSM} {M : Mem} {s : OST} (hk0 : KTH K0) (hl0 : KLW K0) (hT : ∀ j, len ≤ j → T j = 256) (h : ROS n0 K0 T len M s) (h49 : mI M 47 49 = nI (2400 + k)) (hr : ROC T len k k2 o) : TT (f_X12_runs M 47 (nI (2400 + len))) (rnsQ n0 K0 T len k2 M (orT K0 o o.2.1 s)) := by
  obtain ⟨h1, h2, h3, h4, h5, h6, h7⟩ := id h
  have l1 := (ly76 h1.2.1).1
  rw [runs_eq, grd_y l1, TT_bind]
  refine (show TT (f_X12_goesAlong M 47 (nI (2400 + len)) (b1 false)) _ from (r_goes h1.2.1 hT h2 h4 h5 h6 h49 hr false).mono ?_)
  rintro M1 ⟨f1, g26, g50, -⟩
  have S1 := h.fr f1 (fun a k w => Or.inr (Or.inl w))
  have fo1 : Fr (Sob n0) M M1 := f1.up (fun a k w => Or.inr (Or.inl w))
  have e49 : mI M1 47 49 = mI M 47 49 := f1.i (by unfold Sgg; omega)
  rw [TT_bv, TT_bv, g26, g50, TT_bind]
  refine (show TT (loopO (ordB 47 (nI (2400 + len)) (nI o.2.1)) (M1, nI 0)) _ from (r_ordL hk0 hl0 hT hr hr.2.2.2.1 o.2.1 0 M1 s (by omega) S1 (e49.trans h49)).mono ?_)
  intro z hz
  cases ho : orT K0 o o.2.1 s with
  | inr s' =>
    rw [ho] at hz
    obtain ⟨M2, rfl, f2, e2, h2'⟩ := hz
    show TT (bv (wI M2 47 49 (nI (2400 + k2 + 1))) (fun M47 => some (M47, 0))) _
    rw [TT_bv, TT_some]
    exact ⟨rfl, (fo1.tr f2).wI (by unfold Sob; omega), mI_wIs, h2'.fr (S := fun a k => a = 47 ∧ k = 49) (Fr.rf.wI ⟨rfl, rfl⟩) (fun a k w => Or.inr (Or.inr w))⟩
  | inl e =>
    rw [ho] at hz
    obtain ⟨M2, r, f2, hr', he, ⟨rfl, e3⟩ | rfl⟩ := hz
    · subst e3
      exact ⟨_, rfl, 3, by show (-3 : Int32) = _; decide, hr', he, fo1.tr f2⟩
    · exact ⟨_, rfl, r, rfl, hr', he, fo1.tr f2⟩
