/-! the script; a loop with many ends that are alike -/
def allL {P : Nat → Prop} : List Nat → Prop
  | [] => True
  | a :: l => P a ∧ allL (P := P) l
theorem all_list {P : Nat → Prop} : ∀ {l : List Nat}, allL (P := P) l → ∀ p ∈ l, P p
  | [], _, p, h => by cases h
  | a :: l, hl, p, h => by
    rcases List.mem_cons.mp h with rfl | h
    · exact hl.1
    · exact all_list hl.2 p h
section
variable {X : Ctx} {Y : Sta} {M M1 : Mem} {pc pc' : Nat} {L L' : List (Option Value)} {st st' : List Value} {t : Option (Mem × Option Value)}
theorem s_sld {i : Int32} {bS LS : Nat} {xS : Nat → Int32} (hX : va_X bS LS xS (xs X) (xs X).heap) (hbl : bS < (xs X).heap.size) (hbA : ¬ AA (xG X) bS) (hi : vp_in i LS) (hd : decode (yc Y) pc = .ok (.iaload, 1)) (k : S0 X Y M (pc + 1) L (.int (xS i.toNatClampNeg) :: st) t) : S0 X Y M pc L (.int i :: .ref bS :: st) t :=
  k.liftM (fun C H locs cs ss Q ls hH hS hl w => va_sld C.1 C.2.1 hX hbl hbA hS hi hd w)
theorem s_slen {bS LS : Nat} {xS : Nat → Int32} (hX : va_X bS LS xS (xs X) (xs X).heap) (hbl : bS < (xs X).heap.size) (hbA : ¬ AA (xG X) bS) (hd : decode (yc Y) pc = .ok (.arraylength, 1)) (k : S0 X Y M (pc + 1) L (.int (Int32.ofNat LS) :: st) t) : S0 X Y M pc L (.ref bS :: st) t :=
  k.liftM (fun C H locs cs ss Q ls hH hS hl w => va_slen C.1 C.2.1 hX hbl hbA hS hd w)
theorem s_loopL {σ ρ ρ2 α : Type} {b : σ → Option (σ ⊕ (ρ ⊕ ρ2))} {rest : ρ → Option α} {rest2 : ρ2 → Option α} {F : α → Option (Mem × Option Value)} (M0 : Mem) (mm : σ → Mem) (LL : σ → List (Option Value)) (mx : ρ → Mem) (px : Nat) (LX : ρ → List (Option Value)) (mx2 : ρ2 → Mem) (px2 : List Nat) (LX2 : ρ2 → List (Option Value))
    (hr : ∀ x, Le M0 (mx x) → S0 X Y (mx x) px (LX x) [] (Option.bind (rest x) F))
    (hr2 : ∀ p ∈ px2, ∀ x, Le M0 (mx2 x) → S0 X Y (mx2 x) p (LX2 x) [] (Option.bind (rest2 x) F))
    (hb : ∀ (T : σ → Option (Mem × Option Value)) (R1 : ρ → Option (Mem × Option Value)) (R2 : ρ2 → Option (Mem × Option Value)), (∀ s, Le M0 (mm s) → S0 X Y (mm s) pc (LL s) [] (T s)) → (∀ x, Le M0 (mx x) → S0 X Y (mx x) px (LX x) [] (R1 x)) → (∀ p ∈ px2, ∀ x, Le M0 (mx2 x) → S0 X Y (mx2 x) p (LX2 x) [] (R2 x)) → ∀ s, Le M0 (mm s) → S0 X Y (mm s) pc (LL s) [] (Option.bind (b s) (fun q => q.elim T (Sum.elim R1 R2))))
    (s : σ) (hs : Le M0 (mm s)) : S0 X Y (mm s) pc (LL s) [] (Option.bind (Option.bind (loopO b s) (Sum.elim rest rest2)) F) := by
  refine s_loop M0 mm LL (fun T hT s hs => ?_) s hs
  have e : (fun x => Option.bind (Sum.elim rest rest2 x) F) = Sum.elim (fun x => Option.bind (rest x) F) (fun x => Option.bind (rest2 x) F) := by
    funext x
    cases x <;> rfl
  rw [e]
  exact hb T _ _ hT hr hr2 s hs
end
