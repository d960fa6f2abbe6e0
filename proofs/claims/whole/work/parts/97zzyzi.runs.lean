/-! ORDERS: the reference runs one CLAUSE once -/
abbrev HSE : Type := List (Option Nat × Nat × List Nat)
abbrev OST : Type := HSE × Nat × Nat × Int32
def Sob (n0 a k : Nat) : Prop := Srv a k ∨ Sgg a k ∨ (a = 47 ∧ 47 ≤ k ∧ k ≤ 49) ∨ (a = 49 ∧ ((18 + 3 * n0 ≤ k ∧ k < 55) ∨ k = 56))
/-- the reference stands so in the midst of ORDERS -/
def ROS (n0 : Nat) (K0 : Nat → Int32) (T : Nat → Nat) (len : Nat) (M : Mem) (s : OST) : Prop := RUL M ∧ TXK (mI M 49) T len 2400 ∧ AGK K0 (mI M 49) ∧ KST (mI M 49) s.1 s.2.1 ∧ mI M 47 47 = nI s.2.2.1 ∧ mI M 47 48 = s.2.2.2 ∧ n0 ≤ s.1.length
/-- nothing is run on this way -/
theorem ROS.fr {n0 : Nat} {K0 : Nat → Int32} {T : Nat → Nat} {len : Nat} {M M1 : Mem} {s : OST} {S : Nat → Nat → Prop} (h : ROS n0 K0 T len M s) (hF : Fr S M M1) (hs : ∀ a k, S a k → Srv a k ∨ Sgg a k ∨ (a = 47 ∧ k = 49)) : ROS n0 K0 T len M1 s := by
  obtain ⟨h1, h2, h3, h4, h5, h6, h7⟩ := h
  obtain ⟨r1, r2⟩ := h1.fr hF (fun a k w => by have := hs a k w; unfold Srv Sgg at this; unfold Frr; omega)
  have e : ∀ k, k = 47 ∨ k = 48 → mI M1 47 k = mI M 47 k := fun k w => hF.i (fun q => by have := hs 47 k q; unfold Srv Sgg at this; omega)
  exact ⟨r1, by rw [r2]; exact h2, by rw [r2]; exact h3, by rw [r2]; exact h4, by rw [e 47 (by omega)]; exact h5, by rw [e 48 (by omega)]; exact h6, h7⟩
theorem AGK.hs {K K' K2 : Nat → Int32} (h : AGK K K') (h2 : ∀ k, k < 18 ∨ k = 55 ∨ 57 ≤ k → K2 k = K' k) : AGK K K2 := by
  obtain ⟨⟨a1, a2, a3, a4⟩, a5⟩ := h
  refine ⟨⟨fun t ht => by rw [h2 t (by omega)]; exact a1 t ht, by rw [h2 55 (by omega)]; exact a2, by rw [h2 58 (by omega)]; exact a3, fun g hg e => ⟨by rw [h2 _ (by omega)]; exact (a4 g hg e).1, fun j hj => ?_⟩⟩, fun k hk => by rw [h2 k (by omega)]; exact a5 k hk⟩
  rw [h2 _ (by omega), h2 _ (by omega)]
  exact (a4 g hg e).2 j hj
/-- HOUSES and the YEAR become others -/
theorem ROS.mv {n0 : Nat} {K0 : Nat → Int32} {T : Nat → Nat} {len : Nat} {M M1 : Mem} {s s' : OST} (h : ROS n0 K0 T len M s) (hF : Fr (Sob n0) M M1) (hk : KST (mI M1 49) s'.1 s'.2.1) (h47 : mI M1 47 47 = nI s'.2.2.1) (h48 : mI M1 47 48 = s'.2.2.2) (hn : n0 ≤ s'.1.length) : ROS n0 K0 T len M1 s' := by
  obtain ⟨h1, h2, h3, h4, h5, h6, h7⟩ := h
  have e : ∀ k, k < 18 ∨ k = 55 ∨ 57 ≤ k → mI M1 49 k = mI M 49 k := fun k w => hF.i (fun q => by unfold Sob Srv Sgg at q; omega)
  refine ⟨h1.k (hF.fw (R := fun _ _ => False)) (fun a k w => ⟨fun q => by unfold Sob Srv Sgg at w; omega, fun q => by unfold Sob Srv Sgg at w; omega, fun q => by have := q.1; unfold Sob Srv Sgg at w; omega⟩) (fun _ _ w => w.elim) (fun k w => e k (by omega)), ⟨h2.1, fun j hj => ?_⟩, h3.hs e, hk, h47, h48, hn⟩
  rw [e _ (by omega), e _ (by omega)]
  exact h2.2 j hj
noncomputable def ordB (a0 : Nat) (p1 x7 : Int32) (s9 : Mem × Int32) : Option ((Mem × Int32) ⊕ (Mem ⊕ (Mem ⊕ (Mem × Int32)))) := if x7 ≤ s9.2 then (some (.inr (.inl s9.1))) else (Option.bind (f_X12_goesAlong s9.1 a0 p1 1) (fun q26 => bv (fun (s32 : Mem) => bv (s9.2 + 1 : Int32) (fun x36 => some (.inl (s32, x36)))) (fun j31 => if (mI q26 a0 54) = 0 then (j31 q26) else (if (mI q26 a0 53) = 0 then (some (.inr (.inr (.inl q26)))) else (Option.bind (f_X12_obeys q26 a0) (fun q37 => if 0 ≤ q37.2 then (bv (wI q37.1 a0 47 ((mI q37.1 a0 47) + 1)) (fun M42 => j31 M42)) else (some (.inr (.inr (.inr (q37.1, q37.2))))))))))) 
theorem runs_eq {M : Mem} {a0 : Nat} {p1 : Int32} : f_X12_runs M a0 p1 = grd (okO M 12 a0) (Option.bind (f_X12_goesAlong M a0 p1 0) (fun q2 => bv (mI q2 a0 50 : Int32) (fun x7 => bv (mI q2 a0 26 : Int32) (fun x8 => Option.bind (loopO (σ := Mem × Int32) (ρ := Mem ⊕ (Mem ⊕ (Mem × Int32))) (ordB a0 p1 x7) (q2, 0)) (Sum.elim (fun (x20 : Mem) => bv (wI x20 a0 49 x8) (fun M47 => some (M47, 0))) (Sum.elim (fun (x22 : Mem) => some (x22, (-3))) (fun (x24 : Mem × Int32) => some (x24.1, x24.2)))))))) := rfl
/-- what one turn brings: on, or stopped -/
def ordQ (n0 : Nat) (K0 : Nat → Int32) (T : Nat → Nat) (len : Nat) (M : Mem) (i : Nat) (o : Nat ⊕ OST) (z : (Mem × Int32) ⊕ (Mem ⊕ (Mem ⊕ (Mem × Int32)))) : Prop := match o with
  | .inr s => ∃ M1, z = .inl (M1, nI (i + 1)) ∧ Fr (Sob n0) M M1 ∧ mI M1 47 49 = mI M 47 49 ∧ ROS n0 K0 T len M1 s
  | .inl e => ∃ M1, Fr (Sob n0) M M1 ∧ (mI M1 49 55 = mI M 49 55) ∧ (e = 5 ∨ e = 3) ∧ (z = .inr (.inr (.inl M1)) ∧ e = 3 ∨ ∃ r, (r = 1 ∨ r = 2 ∨ r = 3 ∨ r = 5) ∧ z = .inr (.inr (.inr (M1, -(nI r)))) ∧ e = (if r = 5 then 5 else 3))
noncomputable def or1s (K : Nat → Int32) (o : OSM) (s : OST) : Nat ⊕ OST := or1 K o s.1 s.2.1 s.2.2.1 s.2.2.2
