/-! how much of a thing a taste tells -/
theorem tst_count : ∀ l : List Nat, (∀ d ∈ l, d < 6) → tst l = l.count 0 + 8 * l.count 1 + 64 * l.count 2 + 512 * l.count 3 + 4096 * l.count 4 + 32768 * l.count 5
  | [], _ => rfl
  | d :: t, h => by
    have ih := tst_count t (fun x hx => h x (List.mem_cons_of_mem _ hx))
    have hd : d < 6 := h d List.mem_cons_self
    rw [tst_cons, ih]
    simp only [List.count_cons]
    have : d = 0 ∨ d = 1 ∨ d = 2 ∨ d = 3 ∨ d = 4 ∨ d = 5 := by omega
    rcases this with e | e | e | e | e | e <;> subst e <;> simp <;> omega
theorem tst_holds {l : List Nat} (hl : DL l) {t : Nat} (ht : t < 6) : tst l / 8 ^ t % 8 = l.count t := by
  have h := tst_count l hl.2
  have c : ∀ x, l.count x ≤ 5 := fun x => Nat.le_trans List.count_le_length hl.1
  have c0 := c 0
  have c1 := c 1
  have c2 := c 2
  have c3 := c 3
  have c4 := c 4
  have c5 := c 5
  have : t = 0 ∨ t = 1 ∨ t = 2 ∨ t = 3 ∨ t = 4 ∨ t = 5 := by omega
  rcases this with e | e | e | e | e | e <;> subst e <;> simp only [Nat.reducePow] <;> omega
