section
variable {X : Ctx} {Y : Sta} {pc : Nat}
theorem s_loop4 {σ ρ1 ρ2 ρ3 ρ4 α : Type} {b : σ → Option (σ ⊕ (ρ1 ⊕ (ρ2 ⊕ (ρ3 ⊕ ρ4))))} {rest1 : ρ1 → Option α} {rest2 : ρ2 → Option α} {rest3 : ρ3 → Option α} {rest4 : ρ4 → Option α} {F : α → Option (Mem × Option Value)} (M0 : Mem) (mm : σ → Mem) (LL : σ → List (Option Value)) (mx1 : ρ1 → Mem) (px1 : Nat) (LX1 : ρ1 → List (Option Value)) (mx2 : ρ2 → Mem) (px2 : Nat) (LX2 : ρ2 → List (Option Value)) (mx3 : ρ3 → Mem) (px3 : Nat) (LX3 : ρ3 → List (Option Value)) (mx4 : ρ4 → Mem) (px4 : Nat) (LX4 : ρ4 → List (Option Value))
    (hr1 : ∀ x, Le M0 (mx1 x) → S0 X Y (mx1 x) px1 (LX1 x) [] (Option.bind (rest1 x) F))
    (hr2 : ∀ x, Le M0 (mx2 x) → S0 X Y (mx2 x) px2 (LX2 x) [] (Option.bind (rest2 x) F))
    (hr3 : ∀ x, Le M0 (mx3 x) → S0 X Y (mx3 x) px3 (LX3 x) [] (Option.bind (rest3 x) F))
    (hr4 : ∀ x, Le M0 (mx4 x) → S0 X Y (mx4 x) px4 (LX4 x) [] (Option.bind (rest4 x) F))
    (hb : ∀ (T : σ → Option (Mem × Option Value)) (R1 : ρ1 → Option (Mem × Option Value)) (R2 : ρ2 → Option (Mem × Option Value)) (R3 : ρ3 → Option (Mem × Option Value)) (R4 : ρ4 → Option (Mem × Option Value)), (∀ s, Le M0 (mm s) → S0 X Y (mm s) pc (LL s) [] (T s)) → (∀ x, Le M0 (mx1 x) → S0 X Y (mx1 x) px1 (LX1 x) [] (R1 x)) → (∀ x, Le M0 (mx2 x) → S0 X Y (mx2 x) px2 (LX2 x) [] (R2 x)) → (∀ x, Le M0 (mx3 x) → S0 X Y (mx3 x) px3 (LX3 x) [] (R3 x)) → (∀ x, Le M0 (mx4 x) → S0 X Y (mx4 x) px4 (LX4 x) [] (R4 x)) →  ∀ s, Le M0 (mm s) → S0 X Y (mm s) pc (LL s) [] (Option.bind (b s) (fun q => q.elim T (Sum.elim R1 (Sum.elim R2 (Sum.elim R3 R4))))))
    (s : σ) (hs : Le M0 (mm s)) : S0 X Y (mm s) pc (LL s) [] (Option.bind (Option.bind (loopO b s) (Sum.elim rest1 (Sum.elim rest2 (Sum.elim rest3 rest4)))) F) := by
  refine s_loop M0 mm LL (fun T hT s hs => ?_) s hs
  have e : (fun x => Option.bind ((Sum.elim rest1 (Sum.elim rest2 (Sum.elim rest3 rest4))) x) F) = (Sum.elim (fun x => Option.bind (rest1 x) F) (Sum.elim (fun x => Option.bind (rest2 x) F) (Sum.elim (fun x => Option.bind (rest3 x) F) (fun x => Option.bind (rest4 x) F)))) := by
    funext x
    rcases x with x | x | x | x <;> rfl
  rw [e]
  exact hb T _ _ _ _ hT hr1 hr2 hr3 hr4 s hs
theorem s_loop5 {σ ρ1 ρ2 ρ3 ρ4 ρ5 α : Type} {b : σ → Option (σ ⊕ (ρ1 ⊕ (ρ2 ⊕ (ρ3 ⊕ (ρ4 ⊕ ρ5)))))} {rest1 : ρ1 → Option α} {rest2 : ρ2 → Option α} {rest3 : ρ3 → Option α} {rest4 : ρ4 → Option α} {rest5 : ρ5 → Option α} {F : α → Option (Mem × Option Value)} (M0 : Mem) (mm : σ → Mem) (LL : σ → List (Option Value)) (mx1 : ρ1 → Mem) (px1 : Nat) (LX1 : ρ1 → List (Option Value)) (mx2 : ρ2 → Mem) (px2 : Nat) (LX2 : ρ2 → List (Option Value)) (mx3 : ρ3 → Mem) (px3 : Nat) (LX3 : ρ3 → List (Option Value)) (mx4 : ρ4 → Mem) (px4 : Nat) (LX4 : ρ4 → List (Option Value)) (mx5 : ρ5 → Mem) (px5 : Nat) (LX5 : ρ5 → List (Option Value))
    (hr1 : ∀ x, Le M0 (mx1 x) → S0 X Y (mx1 x) px1 (LX1 x) [] (Option.bind (rest1 x) F))
    (hr2 : ∀ x, Le M0 (mx2 x) → S0 X Y (mx2 x) px2 (LX2 x) [] (Option.bind (rest2 x) F))
    (hr3 : ∀ x, Le M0 (mx3 x) → S0 X Y (mx3 x) px3 (LX3 x) [] (Option.bind (rest3 x) F))
    (hr4 : ∀ x, Le M0 (mx4 x) → S0 X Y (mx4 x) px4 (LX4 x) [] (Option.bind (rest4 x) F))
    (hr5 : ∀ x, Le M0 (mx5 x) → S0 X Y (mx5 x) px5 (LX5 x) [] (Option.bind (rest5 x) F))
    (hb : ∀ (T : σ → Option (Mem × Option Value)) (R1 : ρ1 → Option (Mem × Option Value)) (R2 : ρ2 → Option (Mem × Option Value)) (R3 : ρ3 → Option (Mem × Option Value)) (R4 : ρ4 → Option (Mem × Option Value)) (R5 : ρ5 → Option (Mem × Option Value)), (∀ s, Le M0 (mm s) → S0 X Y (mm s) pc (LL s) [] (T s)) → (∀ x, Le M0 (mx1 x) → S0 X Y (mx1 x) px1 (LX1 x) [] (R1 x)) → (∀ x, Le M0 (mx2 x) → S0 X Y (mx2 x) px2 (LX2 x) [] (R2 x)) → (∀ x, Le M0 (mx3 x) → S0 X Y (mx3 x) px3 (LX3 x) [] (R3 x)) → (∀ x, Le M0 (mx4 x) → S0 X Y (mx4 x) px4 (LX4 x) [] (R4 x)) → (∀ x, Le M0 (mx5 x) → S0 X Y (mx5 x) px5 (LX5 x) [] (R5 x)) →  ∀ s, Le M0 (mm s) → S0 X Y (mm s) pc (LL s) [] (Option.bind (b s) (fun q => q.elim T (Sum.elim R1 (Sum.elim R2 (Sum.elim R3 (Sum.elim R4 R5)))))))
    (s : σ) (hs : Le M0 (mm s)) : S0 X Y (mm s) pc (LL s) [] (Option.bind (Option.bind (loopO b s) (Sum.elim rest1 (Sum.elim rest2 (Sum.elim rest3 (Sum.elim rest4 rest5))))) F) := by
  refine s_loop M0 mm LL (fun T hT s hs => ?_) s hs
  have e : (fun x => Option.bind ((Sum.elim rest1 (Sum.elim rest2 (Sum.elim rest3 (Sum.elim rest4 rest5)))) x) F) = (Sum.elim (fun x => Option.bind (rest1 x) F) (Sum.elim (fun x => Option.bind (rest2 x) F) (Sum.elim (fun x => Option.bind (rest3 x) F) (Sum.elim (fun x => Option.bind (rest4 x) F) (fun x => Option.bind (rest5 x) F))))) := by
    funext x
    rcases x with x | x | x | x | x <;> rfl
  rw [e]
  exact hb T _ _ _ _ _ hT hr1 hr2 hr3 hr4 hr5 s hs
theorem s_loop6 {σ ρ1 ρ2 ρ3 ρ4 ρ5 ρ6 α : Type} {b : σ → Option (σ ⊕ (ρ1 ⊕ (ρ2 ⊕ (ρ3 ⊕ (ρ4 ⊕ (ρ5 ⊕ ρ6))))))} {rest1 : ρ1 → Option α} {rest2 : ρ2 → Option α} {rest3 : ρ3 → Option α} {rest4 : ρ4 → Option α} {rest5 : ρ5 → Option α} {rest6 : ρ6 → Option α} {F : α → Option (Mem × Option Value)} (M0 : Mem) (mm : σ → Mem) (LL : σ → List (Option Value)) (mx1 : ρ1 → Mem) (px1 : Nat) (LX1 : ρ1 → List (Option Value)) (mx2 : ρ2 → Mem) (px2 : Nat) (LX2 : ρ2 → List (Option Value)) (mx3 : ρ3 → Mem) (px3 : Nat) (LX3 : ρ3 → List (Option Value)) (mx4 : ρ4 → Mem) (px4 : Nat) (LX4 : ρ4 → List (Option Value)) (mx5 : ρ5 → Mem) (px5 : Nat) (LX5 : ρ5 → List (Option Value)) (mx6 : ρ6 → Mem) (px6 : Nat) (LX6 : ρ6 → List (Option Value))
    (hr1 : ∀ x, Le M0 (mx1 x) → S0 X Y (mx1 x) px1 (LX1 x) [] (Option.bind (rest1 x) F))
    (hr2 : ∀ x, Le M0 (mx2 x) → S0 X Y (mx2 x) px2 (LX2 x) [] (Option.bind (rest2 x) F))
    (hr3 : ∀ x, Le M0 (mx3 x) → S0 X Y (mx3 x) px3 (LX3 x) [] (Option.bind (rest3 x) F))
    (hr4 : ∀ x, Le M0 (mx4 x) → S0 X Y (mx4 x) px4 (LX4 x) [] (Option.bind (rest4 x) F))
    (hr5 : ∀ x, Le M0 (mx5 x) → S0 X Y (mx5 x) px5 (LX5 x) [] (Option.bind (rest5 x) F))
    (hr6 : ∀ x, Le M0 (mx6 x) → S0 X Y (mx6 x) px6 (LX6 x) [] (Option.bind (rest6 x) F))
    (hb : ∀ (T : σ → Option (Mem × Option Value)) (R1 : ρ1 → Option (Mem × Option Value)) (R2 : ρ2 → Option (Mem × Option Value)) (R3 : ρ3 → Option (Mem × Option Value)) (R4 : ρ4 → Option (Mem × Option Value)) (R5 : ρ5 → Option (Mem × Option Value)) (R6 : ρ6 → Option (Mem × Option Value)), (∀ s, Le M0 (mm s) → S0 X Y (mm s) pc (LL s) [] (T s)) → (∀ x, Le M0 (mx1 x) → S0 X Y (mx1 x) px1 (LX1 x) [] (R1 x)) → (∀ x, Le M0 (mx2 x) → S0 X Y (mx2 x) px2 (LX2 x) [] (R2 x)) → (∀ x, Le M0 (mx3 x) → S0 X Y (mx3 x) px3 (LX3 x) [] (R3 x)) → (∀ x, Le M0 (mx4 x) → S0 X Y (mx4 x) px4 (LX4 x) [] (R4 x)) → (∀ x, Le M0 (mx5 x) → S0 X Y (mx5 x) px5 (LX5 x) [] (R5 x)) → (∀ x, Le M0 (mx6 x) → S0 X Y (mx6 x) px6 (LX6 x) [] (R6 x)) →  ∀ s, Le M0 (mm s) → S0 X Y (mm s) pc (LL s) [] (Option.bind (b s) (fun q => q.elim T (Sum.elim R1 (Sum.elim R2 (Sum.elim R3 (Sum.elim R4 (Sum.elim R5 R6))))))))
    (s : σ) (hs : Le M0 (mm s)) : S0 X Y (mm s) pc (LL s) [] (Option.bind (Option.bind (loopO b s) (Sum.elim rest1 (Sum.elim rest2 (Sum.elim rest3 (Sum.elim rest4 (Sum.elim rest5 rest6)))))) F) := by
  refine s_loop M0 mm LL (fun T hT s hs => ?_) s hs
  have e : (fun x => Option.bind ((Sum.elim rest1 (Sum.elim rest2 (Sum.elim rest3 (Sum.elim rest4 (Sum.elim rest5 rest6))))) x) F) = (Sum.elim (fun x => Option.bind (rest1 x) F) (Sum.elim (fun x => Option.bind (rest2 x) F) (Sum.elim (fun x => Option.bind (rest3 x) F) (Sum.elim (fun x => Option.bind (rest4 x) F) (Sum.elim (fun x => Option.bind (rest5 x) F) (fun x => Option.bind (rest6 x) F)))))) := by
    funext x
    rcases x with x | x | x | x | x | x <;> rfl
  rw [e]
  exact hb T _ _ _ _ _ _ hT hr1 hr2 hr3 hr4 hr5 hr6 s hs
theorem s_loop7 {σ ρ1 ρ2 ρ3 ρ4 ρ5 ρ6 ρ7 α : Type} {b : σ → Option (σ ⊕ (ρ1 ⊕ (ρ2 ⊕ (ρ3 ⊕ (ρ4 ⊕ (ρ5 ⊕ (ρ6 ⊕ ρ7)))))))} {rest1 : ρ1 → Option α} {rest2 : ρ2 → Option α} {rest3 : ρ3 → Option α} {rest4 : ρ4 → Option α} {rest5 : ρ5 → Option α} {rest6 : ρ6 → Option α} {rest7 : ρ7 → Option α} {F : α → Option (Mem × Option Value)} (M0 : Mem) (mm : σ → Mem) (LL : σ → List (Option Value)) (mx1 : ρ1 → Mem) (px1 : Nat) (LX1 : ρ1 → List (Option Value)) (mx2 : ρ2 → Mem) (px2 : Nat) (LX2 : ρ2 → List (Option Value)) (mx3 : ρ3 → Mem) (px3 : Nat) (LX3 : ρ3 → List (Option Value)) (mx4 : ρ4 → Mem) (px4 : Nat) (LX4 : ρ4 → List (Option Value)) (mx5 : ρ5 → Mem) (px5 : Nat) (LX5 : ρ5 → List (Option Value)) (mx6 : ρ6 → Mem) (px6 : Nat) (LX6 : ρ6 → List (Option Value)) (mx7 : ρ7 → Mem) (px7 : Nat) (LX7 : ρ7 → List (Option Value))
    (hr1 : ∀ x, Le M0 (mx1 x) → S0 X Y (mx1 x) px1 (LX1 x) [] (Option.bind (rest1 x) F))
    (hr2 : ∀ x, Le M0 (mx2 x) → S0 X Y (mx2 x) px2 (LX2 x) [] (Option.bind (rest2 x) F))
    (hr3 : ∀ x, Le M0 (mx3 x) → S0 X Y (mx3 x) px3 (LX3 x) [] (Option.bind (rest3 x) F))
    (hr4 : ∀ x, Le M0 (mx4 x) → S0 X Y (mx4 x) px4 (LX4 x) [] (Option.bind (rest4 x) F))
    (hr5 : ∀ x, Le M0 (mx5 x) → S0 X Y (mx5 x) px5 (LX5 x) [] (Option.bind (rest5 x) F))
    (hr6 : ∀ x, Le M0 (mx6 x) → S0 X Y (mx6 x) px6 (LX6 x) [] (Option.bind (rest6 x) F))
    (hr7 : ∀ x, Le M0 (mx7 x) → S0 X Y (mx7 x) px7 (LX7 x) [] (Option.bind (rest7 x) F))
    (hb : ∀ (T : σ → Option (Mem × Option Value)) (R1 : ρ1 → Option (Mem × Option Value)) (R2 : ρ2 → Option (Mem × Option Value)) (R3 : ρ3 → Option (Mem × Option Value)) (R4 : ρ4 → Option (Mem × Option Value)) (R5 : ρ5 → Option (Mem × Option Value)) (R6 : ρ6 → Option (Mem × Option Value)) (R7 : ρ7 → Option (Mem × Option Value)), (∀ s, Le M0 (mm s) → S0 X Y (mm s) pc (LL s) [] (T s)) → (∀ x, Le M0 (mx1 x) → S0 X Y (mx1 x) px1 (LX1 x) [] (R1 x)) → (∀ x, Le M0 (mx2 x) → S0 X Y (mx2 x) px2 (LX2 x) [] (R2 x)) → (∀ x, Le M0 (mx3 x) → S0 X Y (mx3 x) px3 (LX3 x) [] (R3 x)) → (∀ x, Le M0 (mx4 x) → S0 X Y (mx4 x) px4 (LX4 x) [] (R4 x)) → (∀ x, Le M0 (mx5 x) → S0 X Y (mx5 x) px5 (LX5 x) [] (R5 x)) → (∀ x, Le M0 (mx6 x) → S0 X Y (mx6 x) px6 (LX6 x) [] (R6 x)) → (∀ x, Le M0 (mx7 x) → S0 X Y (mx7 x) px7 (LX7 x) [] (R7 x)) →  ∀ s, Le M0 (mm s) → S0 X Y (mm s) pc (LL s) [] (Option.bind (b s) (fun q => q.elim T (Sum.elim R1 (Sum.elim R2 (Sum.elim R3 (Sum.elim R4 (Sum.elim R5 (Sum.elim R6 R7)))))))))
    (s : σ) (hs : Le M0 (mm s)) : S0 X Y (mm s) pc (LL s) [] (Option.bind (Option.bind (loopO b s) (Sum.elim rest1 (Sum.elim rest2 (Sum.elim rest3 (Sum.elim rest4 (Sum.elim rest5 (Sum.elim rest6 rest7))))))) F) := by
  refine s_loop M0 mm LL (fun T hT s hs => ?_) s hs
  have e : (fun x => Option.bind ((Sum.elim rest1 (Sum.elim rest2 (Sum.elim rest3 (Sum.elim rest4 (Sum.elim rest5 (Sum.elim rest6 rest7)))))) x) F) = (Sum.elim (fun x => Option.bind (rest1 x) F) (Sum.elim (fun x => Option.bind (rest2 x) F) (Sum.elim (fun x => Option.bind (rest3 x) F) (Sum.elim (fun x => Option.bind (rest4 x) F) (Sum.elim (fun x => Option.bind (rest5 x) F) (Sum.elim (fun x => Option.bind (rest6 x) F) (fun x => Option.bind (rest7 x) F))))))) := by
    funext x
    rcases x with x | x | x | x | x | x | x <;> rfl
  rw [e]
  exact hb T _ _ _ _ _ _ _ hT hr1 hr2 hr3 hr4 hr5 hr6 hr7 s hs
end
