/-! THE START: memory as a row of deeds -/
def M00 : Mem := ((0, 0), fun _ => 0, fun _ => 0, fun _ _ => 0, fun _ _ => 0, fun _ _ => none)
abbrev Dee : Type := Nat × Nat × Nat × Nat × Int32
/-- 0: an object of a kind; 1: an array; 2: a reference; 3: an int -/
def exD (M : Mem) (o : Dee) : Mem := cond (Nat.beq o.1 0) (nO M o.2.1 o.2.2.1) (cond (Nat.beq o.1 1) (nA M o.2.1 o.2.2.1) (cond (Nat.beq o.1 2) (wR M o.2.1 o.2.2.1 (some o.2.2.2.1)) (wI M o.2.1 o.2.2.1 o.2.2.2.2)))
noncomputable def XD (l : List Dee) : Mem := List.rec (motive := fun _ => Mem) M00 (fun o _ ih => exD ih o) l
theorem XD_nO {l : List Dee} {c n : Nat} : nO (XD l) c n = XD ((0, c, n, 0, 0) :: l) := rfl
theorem XD_nA {l : List Dee} {c n : Nat} : nA (XD l) c n = XD ((1, c, n, 0, 0) :: l) := rfl
theorem XD_wR {l : List Dee} {a k r : Nat} : wR (XD l) a k (some r) = XD ((2, a, k, r, 0) :: l) := rfl
theorem XD_wI {l : List Dee} {a k : Nat} {v : Int32} : wI (XD l) a k v = XD ((3, a, k, 0, v) :: l) := rfl
theorem XD_c {l : List Dee} {o : Dee} : XD (o :: l) = exD (XD l) o := rfl
theorem bvE {α β : Type} {v : α} {k : α → Option β} {r : Option β} (v' : α) (h : v = v') (h2 : k v' = r) : bv v k = r := by
  subst h
  exact h2
theorem grdE {α : Type} {c : Prop} {k r : Option α} (h : c) (h2 : k = r) : grd c k = r := by
  rw [grd_y h]
  exact h2
theorem bndE {α β : Type} {t : Option α} {x : α} {k : α → Option β} {r : Option β} (h : t = some x) (h2 : k x = r) : Option.bind t k = r := by
  rw [h]
  exact h2
theorem va_up0 {α : Type} {f : Nat → α} {k : Nat} {v : α} {a : Nat} {x : α} (h1 : v = x) (h2 : f a = x) : va_up f k v a = x := by
  unfold va_up
  split
  · exact h1
  · exact h2
theorem XDi0 : ∀ (l : List Dee) (a : Nat), l.all (fun o => Nat.beq o.1 0 || Nat.beq o.1 1 || Nat.beq o.1 2 || !(Nat.beq o.2.1 a)) = true → ∀ k, mI (XD l) a k = 0 := by
  intro l
  induction l with
  | nil => intro a _ k; rfl
  | cons o l ih =>
    intro a h k
    rw [List.all_cons, Bool.and_eq_true] at h
    obtain ⟨h1, h2⟩ := h
    have e := ih a h2 k
    have ef : mI (XD l) a = fun _ => 0 := funext (fun j => ih a h2 j)
    rw [XD_c]
    unfold exD
    cases q0 : Nat.beq o.1 0 with
    | true =>
      show va_up (mI (XD l)) (mn (XD l)) (fun _ => 0) a k = 0
      rw [va_up0 (x := fun _ => 0) rfl ef]
    | false =>
      cases q1 : Nat.beq o.1 1 with
      | true =>
        show va_up (mI (XD l)) (mn (XD l)) (fun _ => 0) a k = 0
        rw [va_up0 (x := fun _ => 0) rfl ef]
      | false =>
        cases q2 : Nat.beq o.1 2 with
        | true => exact e
        | false =>
          rw [q0, q1, q2] at h1
          have hb : Nat.beq o.2.1 a = false := by simpa using h1
          have hne : a ≠ o.2.1 := fun z => by
            rw [← z, Nat.beq_refl] at hb
            cases hb
          show mI (wI (XD l) o.2.1 o.2.2.1 o.2.2.2.2) a k = 0
          rw [mI_wI_row hne]
          exact e
theorem XDj0 : ∀ (l : List Dee) (a k : Nat), mJ (XD l) a k = 0 := by
  intro l
  induction l with
  | nil => intro a k; rfl
  | cons o l ih =>
    intro a k
    have ef : mJ (XD l) a = fun _ => 0 := funext (fun j => ih a j)
    rw [XD_c]
    unfold exD
    cases q0 : Nat.beq o.1 0 with
    | true => exact ih a k
    | false =>
      cases q1 : Nat.beq o.1 1 with
      | true =>
        show va_up (mJ (XD l)) (mn (XD l)) (fun _ => 0) a k = 0
        rw [va_up0 (x := fun _ => 0) rfl ef]
      | false =>
        cases q2 : Nat.beq o.1 2 with
        | true => exact ih a k
        | false => exact ih a k
theorem XDr0 : ∀ (l : List Dee) (a : Nat), l.all (fun o => !(Nat.beq o.1 2) || !(Nat.beq o.2.1 a)) = true → ∀ k, mR (XD l) a k = none := by
  intro l
  induction l with
  | nil => intro a _ k; rfl
  | cons o l ih =>
    intro a h k
    rw [List.all_cons, Bool.and_eq_true] at h
    obtain ⟨h1, h2⟩ := h
    have e := ih a h2 k
    have ef : mR (XD l) a = fun _ => none := funext (fun j => ih a h2 j)
    rw [XD_c]
    unfold exD
    cases q0 : Nat.beq o.1 0 with
    | true =>
      show va_up (mR (XD l)) (mn (XD l)) (fun _ => none) a k = none
      rw [va_up0 (x := fun _ => none) rfl ef]
    | false =>
      cases q1 : Nat.beq o.1 1 with
      | true =>
        show va_up (mR (XD l)) (mn (XD l)) (fun _ => none) a k = none
        rw [va_up0 (x := fun _ => none) rfl ef]
      | false =>
        cases q2 : Nat.beq o.1 2 with
        | true =>
          rw [q2] at h1
          have hb : Nat.beq o.2.1 a = false := by simpa using h1
          have hne : ¬ (a = o.2.1 ∧ k = o.2.2.1) := fun z => by
            rw [← z.1, Nat.beq_refl] at hb
            cases hb
          show mR (wR (XD l) o.2.1 o.2.2.1 (some o.2.2.2.1)) a k = none
          rw [mR_wR, if_neg hne]
          exact e
        | false => exact e
