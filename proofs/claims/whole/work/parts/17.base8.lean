/-! answers that are references, joins, loops with their ends, entries -/
theorem nle {a b : Nat} (h : Nat.ble a b = true) : a ≤ b := Nat.le_of_ble_eq_true h
theorem nlt {a b : Nat} (h : Nat.ble (a + 1) b = true) : a < b := Nat.le_of_ble_eq_true h
def rv (G : Gh) (o : Option Nat) : Value := va_rf (o.map (gh G + ·))
theorem rv_or {G : Gh} {o : Option Nat} : rv G o = .null ∨ ∃ a, rv G o = .ref a := by
  cases o with
  | none => exact Or.inl rfl
  | some b => exact Or.inr ⟨_, rfl⟩
theorem ref_or {b : Nat} : Value.ref b = .null ∨ ∃ a, Value.ref b = .ref a := Or.inr ⟨_, rfl⟩
theorem le_wI {M M1 : Mem} {a k : Nat} {v : Int32} (h : M1 = wI M a k v) : Le M M1 := by subst h; exact Le.eqv rfl rfl rfl rfl
theorem le_wJ {M M1 : Mem} {a k : Nat} {v : Int64} (h : M1 = wJ M a k v) : Le M M1 := by subst h; exact Le.eqv rfl rfl rfl rfl
theorem le_wR {M M1 : Mem} {a k : Nat} {v : Option Nat} (h : M1 = wR M a k v) : Le M M1 := by subst h; exact Le.eqv rfl rfl rfl rfl
theorem le_cI {M M1 : Mem} {a b : Nat} {s d n : Int32} (h : M1 = cpI M a s b d n) : Le M M1 := by subst h; exact Le.eqv rfl rfl rfl rfl
theorem le_cR {M M1 : Mem} {a b : Nat} {s d n : Int32} (h : M1 = cpR M a s b d n) : Le M M1 := by subst h; exact Le.eqv rfl rfl rfl rfl
theorem le_nO {M M1 : Mem} {c n : Nat} (h : M1 = nO M c n) : Le M M1 := by subst h; exact Le.newO
theorem le_nA {M M1 : Mem} {c n : Nat} (h : M1 = nA M c n) : Le M M1 := by subst h; exact Le.newA
theorem ok_nO {M M1 : Mem} {c n : Nat} (h : M1 = nO M c n) : okO M1 c (mn M) := by subst h; exact ⟨Nat.lt_succ_self _, if_pos rfl⟩
theorem ok_nA {M M1 : Mem} {c n : Nat} (h : M1 = nA M c n) : okO M1 c (mn M) := by subst h; exact ⟨Nat.lt_succ_self _, if_pos rfl⟩
def bl (x : Int32) : Prop := narrow .boolean (.int x) = .int x
def sh (x : Int32) : Prop := narrow .short (.int x) = .int x
/-- the locals at a method's beginning -/
def Lof : List Value → List (Option Value)
  | [] => []
  | v :: vs => if v.category = 2 then some v :: none :: Lof vs else some v :: Lof vs
theorem Lof_at (n : Nat) : ∀ (args : List Value) (i0 i : Nat) (v : Value), (Lof args ++ List.replicate n none)[i]? = some (some v) → (i0 + i, v) ∈ lv_args i0 args
  | [], i0, i, v, h => by
    rw [Lof, List.nil_append, List.getElem?_replicate] at h
    by_cases q : i < n
    · rw [if_pos q] at h; cases h
    · rw [if_neg q] at h; cases h
  | w :: vs, i0, i, v, h => by
    rw [lv_args]
    rw [Lof] at h
    by_cases q : w.category = 2
    · rw [if_pos q] at h
      rw [if_pos q]
      match i, h with
      | 0, h =>
        simp only [List.cons_append, List.getElem?_cons_zero, Option.some.injEq] at h
        subst h
        exact List.mem_cons_self
      | 1, h => simp at h
      | i + 2, h =>
        simp only [List.cons_append, List.getElem?_cons_succ] at h
        have := Lof_at n vs (i0 + 2) i v h
        rw [show i0 + (i + 2) = i0 + 2 + i by omega]
        exact List.mem_cons_of_mem _ this
    · rw [if_neg q] at h
      rw [if_neg q]
      match i, h with
      | 0, h =>
        simp only [List.cons_append, List.getElem?_cons_zero, Option.some.injEq] at h
        subst h
        exact List.mem_cons_self
      | i + 1, h =>
        simp only [List.cons_append, List.getElem?_cons_succ] at h
        have := Lof_at n vs (i0 + 1) i v h
        rw [show i0 + (i + 1) = i0 + 1 + i by omega]
        exact List.mem_cons_of_mem _ this
theorem Lof_in (n : Nat) (args : List Value) {L : List (Option Value)} (hL : L = Lof args ++ List.replicate n none) (i : Nat) (v : Value) (h : L[i]? = some (some v)) : (i, v) ∈ lv_args 0 args := by
  subst hL
  have := Lof_at n args 0 i v h
  rw [Nat.zero_add] at this
  exact this
section
variable {X : Ctx} {Y : Sta} {M M1 : Mem} {pc pc' : Nat} {L L' : List (Option Value)} {st st' : List Value} {t : Option (Mem × Option Value)}
variable {ci idx a : Nat} {C : String} {T : u_T} {N : Nat} {ty : Nat → FieldType}
theorem s_aret {v : Value} {rt : FieldType} (hr : yr Y = some rt) (hrt : (∃ n, rt = .object n) ∨ ∃ t, rt = .array t) (hv : v = .null ∨ ∃ a, v = .ref a) (hd : decode (yc Y) pc = .ok (.areturn, 1)) : S0 X Y M pc L [v] (some (M, some v)) :=
  s_ret (fun CX H locs cs ss ls hq hf => W.aret CX.1 CX.2.1 (CX.2.2.2.2.2.2.2.1.trans hr) hrt hv hq hf hd CX.2.2.2.2.2.2.2.2.1)
theorem s_puto {α : Type} {F : α → Option (Mem × Option Value)} (Fc : FCls ci C T N ty) (k : Nat) {o : Option Nat} {kt : Mem → Option α} (hk : (fkd ci)[k]? = some 1) (ho : okO M ci a) (hfin : (T k).2.2.2 = false) (hn : ∀ x : Nat, narrow (ty k) (.ref x) = .ref x) (hfit : ∀ x : Nat, fits (ty k) (.ref x) = true) (hn0 : narrow (ty k) .null = .null) (hf0 : fits (ty k) .null = true) (hd : decode (yc Y) pc = .ok (.putfield idx, 3)) (hw : Cond.fieldLink (yo Y) idx C (T k).2.1 (T k).2.2.1 ∈ lw_good) (kk : ∀ M1, M1 = wR M a k o → S0 X Y M1 (pc + 3) L st (Option.bind (kt M1) F)) : S0 X Y M pc L (rv (xG X) o :: .ref (gh (xG X) + a) :: st) (Option.bind (bv (wR M a k o) kt) F) := by
  cases o with
  | none => exact s_putn Fc k hk ho hfin hn0 hf0 hd hw kk
  | some x => exact s_putr Fc k hk ho hfin (hn _) (hfit _) hd hw kk
theorem s_join {σ α : Type} {F : α → Option (Mem × Option Value)} {code : σ → Option α} {kt : (σ → Option α) → Option α} (M0 : Mem) (mm : σ → Mem) (pj : Nat) (LL : σ → List (Option Value)) (SS : σ → List Value) (h1 : ∀ s, Le M0 (mm s) → S0 X Y (mm s) pj (LL s) (SS s) (Option.bind (code s) F)) (h2 : ∀ j : σ → Option α, (∀ s, Le M0 (mm s) → S0 X Y (mm s) pj (LL s) (SS s) (Option.bind (j s) F)) → S0 X Y M pc L st (Option.bind (kt j) F)) : S0 X Y M pc L st (Option.bind (bv code kt) F) := h2 code h1
theorem s_loop1 {σ ρ α : Type} {b : σ → Option (σ ⊕ ρ)} {rest : ρ → Option α} {F : α → Option (Mem × Option Value)} (M0 : Mem) (mm : σ → Mem) (LL : σ → List (Option Value)) (mx : ρ → Mem) (px : Nat) (LX : ρ → List (Option Value))
    (hr : ∀ x, Le M0 (mx x) → S0 X Y (mx x) px (LX x) [] (Option.bind (rest x) F))
    (hb : ∀ (T : σ → Option (Mem × Option Value)) (R1 : ρ → Option (Mem × Option Value)), (∀ s, Le M0 (mm s) → S0 X Y (mm s) pc (LL s) [] (T s)) → (∀ x, Le M0 (mx x) → S0 X Y (mx x) px (LX x) [] (R1 x)) → ∀ s, Le M0 (mm s) → S0 X Y (mm s) pc (LL s) [] (Option.bind (b s) (fun q => q.elim T R1)))
    (s : σ) (hs : Le M0 (mm s)) : S0 X Y (mm s) pc (LL s) [] (Option.bind (Option.bind (loopO b s) rest) F) :=
  s_loop M0 mm LL (fun T hT s hs => hb T (fun x => Option.bind (rest x) F) hT hr s hs) s hs
theorem s_loop2 {σ ρ ρ2 α : Type} {b : σ → Option (σ ⊕ (ρ ⊕ ρ2))} {rest : ρ → Option α} {rest2 : ρ2 → Option α} {F : α → Option (Mem × Option Value)} (M0 : Mem) (mm : σ → Mem) (LL : σ → List (Option Value)) (mx : ρ → Mem) (px : Nat) (LX : ρ → List (Option Value)) (mx2 : ρ2 → Mem) (px2 : Nat) (LX2 : ρ2 → List (Option Value))
    (hr : ∀ x, Le M0 (mx x) → S0 X Y (mx x) px (LX x) [] (Option.bind (rest x) F))
    (hr2 : ∀ x, Le M0 (mx2 x) → S0 X Y (mx2 x) px2 (LX2 x) [] (Option.bind (rest2 x) F))
    (hb : ∀ (T : σ → Option (Mem × Option Value)) (R1 : ρ → Option (Mem × Option Value)) (R2 : ρ2 → Option (Mem × Option Value)), (∀ s, Le M0 (mm s) → S0 X Y (mm s) pc (LL s) [] (T s)) → (∀ x, Le M0 (mx x) → S0 X Y (mx x) px (LX x) [] (R1 x)) → (∀ x, Le M0 (mx2 x) → S0 X Y (mx2 x) px2 (LX2 x) [] (R2 x)) → ∀ s, Le M0 (mm s) → S0 X Y (mm s) pc (LL s) [] (Option.bind (b s) (fun q => q.elim T (Sum.elim R1 R2))))
    (s : σ) (hs : Le M0 (mm s)) : S0 X Y (mm s) pc (LL s) [] (Option.bind (Option.bind (loopO b s) (Sum.elim rest rest2)) F) := by
  refine s_loop M0 mm LL (fun T hT s hs => ?_) s hs
  have e : (fun x => Option.bind (Sum.elim rest rest2 x) F) = Sum.elim (fun x => Option.bind (rest x) F) (fun x => Option.bind (rest2 x) F) := by
    funext x
    cases x <;> rfl
  rw [e]
  exact hb T _ _ hT hr hr2 s hs
theorem s_loop3 {σ ρ ρ2 ρ3 α : Type} {b : σ → Option (σ ⊕ (ρ ⊕ (ρ2 ⊕ ρ3)))} {rest : ρ → Option α} {rest2 : ρ2 → Option α} {rest3 : ρ3 → Option α} {F : α → Option (Mem × Option Value)} (M0 : Mem) (mm : σ → Mem) (LL : σ → List (Option Value)) (mx : ρ → Mem) (px : Nat) (LX : ρ → List (Option Value)) (mx2 : ρ2 → Mem) (px2 : Nat) (LX2 : ρ2 → List (Option Value)) (mx3 : ρ3 → Mem) (px3 : Nat) (LX3 : ρ3 → List (Option Value))
    (hr : ∀ x, Le M0 (mx x) → S0 X Y (mx x) px (LX x) [] (Option.bind (rest x) F))
    (hr2 : ∀ x, Le M0 (mx2 x) → S0 X Y (mx2 x) px2 (LX2 x) [] (Option.bind (rest2 x) F))
    (hr3 : ∀ x, Le M0 (mx3 x) → S0 X Y (mx3 x) px3 (LX3 x) [] (Option.bind (rest3 x) F))
    (hb : ∀ (T : σ → Option (Mem × Option Value)) (R1 : ρ → Option (Mem × Option Value)) (R2 : ρ2 → Option (Mem × Option Value)) (R3 : ρ3 → Option (Mem × Option Value)), (∀ s, Le M0 (mm s) → S0 X Y (mm s) pc (LL s) [] (T s)) → (∀ x, Le M0 (mx x) → S0 X Y (mx x) px (LX x) [] (R1 x)) → (∀ x, Le M0 (mx2 x) → S0 X Y (mx2 x) px2 (LX2 x) [] (R2 x)) → (∀ x, Le M0 (mx3 x) → S0 X Y (mx3 x) px3 (LX3 x) [] (R3 x)) → ∀ s, Le M0 (mm s) → S0 X Y (mm s) pc (LL s) [] (Option.bind (b s) (fun q => q.elim T (Sum.elim R1 (Sum.elim R2 R3)))))
    (s : σ) (hs : Le M0 (mm s)) : S0 X Y (mm s) pc (LL s) [] (Option.bind (Option.bind (loopO b s) (Sum.elim rest (Sum.elim rest2 rest3))) F) := by
  refine s_loop M0 mm LL (fun T hT s hs => ?_) s hs
  have e : (fun x => Option.bind (Sum.elim rest (Sum.elim rest2 rest3) x) F) = Sum.elim (fun x => Option.bind (rest x) F) (Sum.elim (fun x => Option.bind (rest2 x) F) (fun x => Option.bind (rest3 x) F)) := by
    funext x
    rcases x with x | x | x <;> rfl
  rw [e]
  exact hb T _ _ _ hT hr hr2 hr3 s hs
end
