/-! the machine, as a function of its code -/
def ap (op : Nat) (a b : Int) : Option Int :=
  (if op = 3 then some (a + b) else if op = 4 then some (a - b) else if op = 5 then some (a * b)
    else if op = 6 then (if b = 0 then none else some (a.tdiv b)) else if op = 7 then (if b = 0 then none else some (a.tmod b))
    else if op = 8 then some (if a < b then 1 else 0) else if op = 9 then some (if b < a then 1 else 0) else some (if a = b then 1 else 0)).bind
  (fun x => if 1000000000 < x ∨ x < -1000000000 then none else some x)
def mstep (C : Nat → Nat) (L : Nat) (W : Nat → Int) (at0 : Nat) (st : List Int) : (Nat × List Int) ⊕ Option Int :=
  if L ≤ at0 then .inr none
  else if C at0 % 16 = 1 ∨ C at0 % 16 = 2 then
    (if 64 ≤ st.length ∨ (C at0 % 16 = 2 ∧ 88 ≤ C at0 / 16) then .inr none else .inl (at0 + 1, (if C at0 % 16 = 1 then ((C at0 / 16 : Nat) : Int) else W (C at0 / 16)) :: st))
  else match st with
    | [] => .inr none
    | a :: r =>
      if C at0 % 16 = 0 then .inr (some ((a :: r).getLastD 0))
      else if C at0 % 16 = 11 then (if a = 0 ∨ a = 1 then .inl (at0 + 1, (1 - a) :: r) else .inl (at0, a :: r))
      else if C at0 % 16 = 12 ∨ C at0 % 16 = 13 then (if (a = 1 ↔ C at0 % 16 = 12) then .inl (max at0 (C at0 / 16 - 1) + 1, a :: r) else .inl (at0 + 1, r))
      else match r with
        | [] => .inr none
        | b :: r2 => match ap (C at0 % 16) b a with
          | none => .inr none
          | some v => .inl (at0 + 1, v :: r2)
def mrunN (C : Nat → Nat) (L : Nat) (W : Nat → Int) : Nat → Nat → List Int → Option (Option Int)
  | 0, _, _ => none
  | n + 1, at0, st => match mstep C L W at0 st with
    | .inl s => mrunN C L W n s.1 s.2
    | .inr r => some r
def RUN (C : Nat → Nat) (L : Nat) (W : Nat → Int) (at0 : Nat) (st : List Int) (r : Option Int) : Prop := ∃ n, mrunN C L W n at0 st = some r
section
variable {C : Nat → Nat} {L : Nat} {W : Nat → Int}
theorem RUN.step {a : Nat} {st : List Int} {s : Nat × List Int} (h : mstep C L W a st = .inl s) {r : Option Int} (hr : RUN C L W s.1 s.2 r) : RUN C L W a st r := by
  obtain ⟨n, hn⟩ := hr
  exact ⟨n + 1, by rw [mrunN, h]; exact hn⟩
theorem RUN.stop {a : Nat} {st : List Int} {r : Option Int} (h : mstep C L W a st = .inr r) : RUN C L W a st r := ⟨1, by rw [mrunN, h]⟩
/-- a stretch of code works a value out -/
def EVQ (C : Nat → Nat) (L : Nat) (W : Nat → Int) (u u2 : Nat) (st : List Int) (r : Option Int) (v : Option Int) : Prop := match v with
  | some x => RUN C L W u2 (x :: st) r → RUN C L W u st r
  | none => RUN C L W u st none
def EVM (C : Nat → Nat) (L : Nat) (W : Nat → Int) (u u2 pn : Nat) (v : Option Int) : Prop := ∀ st r, st.length + pn ≤ 64 → EVQ C L W u u2 st r v
theorem EVM_num {u n : Nat} (hu : u < L) (hc : C u = 16 * n + 1) : EVM C L W u (u + 1) 1 (some (n : Int)) := by
  intro st r hs hr
  refine RUN.step (s := (u + 1, (n : Int) :: st)) ?_ hr
  unfold mstep
  rw [hc, show (16 * n + 1) % 16 = 1 by omega, show (16 * n + 1) / 16 = n by omega, if_neg (by omega), if_pos (Or.inl rfl), if_neg (by omega), if_pos rfl]
theorem EVM_word {u w : Nat} (hu : u < L) (hw : w < 88) (hc : C u = 16 * w + 2) : EVM C L W u (u + 1) 1 (some (W w)) := by
  intro st r hs hr
  refine RUN.step (s := (u + 1, W w :: st)) ?_ hr
  unfold mstep
  rw [hc, show (16 * w + 2) % 16 = 2 by omega, show (16 * w + 2) / 16 = w by omega, if_neg (by omega), if_pos (Or.inr rfl), if_neg (by omega), if_neg (by decide)]
theorem EVM_bin {u u1 u2 p1 p2 op : Nat} {v1 v2 : Option Int} (h1 : EVM C L W u u1 p1 v1) (h2 : EVM C L W u1 u2 p2 v2) (hp : 1 ≤ p1) (hu : u2 < L) (hc : C u2 = op) (ho : 3 ≤ op ∧ op ≤ 10) : EVM C L W u (u2 + 1) (p1 + p2) (v1.bind (fun a => v2.bind (fun b => ap op a b))) := by
  intro st r hs
  have g1 := h1 st
  cases v1 with
  | none => exact g1 none (by omega)
  | some a =>
    have g2 := h2 (a :: st)
    cases v2 with
    | none => exact g1 none (by omega) (g2 none (by simp only [List.length_cons]; omega))
    | some b =>
      have st1 : mstep C L W u2 (b :: a :: st) = match ap op a b with
          | none => .inr none
          | some v => .inl (u2 + 1, v :: st) := by
        unfold mstep
        rw [hc, show op % 16 = op by omega, if_neg (by omega), if_neg (by omega)]
        simp only
        rw [if_neg (by omega), if_neg (by omega), if_neg (by omega)]
      show EVQ C L W u (u2 + 1) st r (ap op a b)
      cases hap : ap op a b with
      | none =>
        rw [hap] at st1
        exact g1 none (by omega) (g2 none (by simp only [List.length_cons]; omega) (RUN.stop st1))
      | some v =>
        rw [hap] at st1
        intro hr
        exact g1 r (by omega) (g2 r (by simp only [List.length_cons]; omega) (RUN.step st1 hr))
theorem EVM_not {u u1 p1 : Nat} {v1 : Option Int} (h1 : EVM C L W u u1 p1 v1) (h01 : ∀ a, v1 = some a → a = 0 ∨ a = 1) (hu : u1 < L) (hc : C u1 = 11) : EVM C L W u (u1 + 1) p1 (v1.map (fun a => 1 - a)) := by
  intro st r hs
  have g1 := h1 st
  cases v1 with
  | none => exact g1 none hs
  | some a =>
    intro hr
    refine g1 r hs (RUN.step (s := (u1 + 1, (1 - a) :: st)) ?_ hr)
    unfold mstep
    rw [hc, if_neg (by omega), if_neg (by decide)]
    simp only
    rw [if_neg (by decide), if_pos (by decide), if_pos (h01 a rfl)]
theorem EVM_jump {u u1 u2 p1 p2 op : Nat} {v1 v2 : Option Int} (h1 : EVM C L W u u1 p1 v1) (h2 : EVM C L W (u1 + 1) u2 p2 v2) (hp : 1 ≤ p1) (hu : u1 < L) (hlt : u1 < u2) (ho : op = 12 ∨ op = 13) (hc : C u1 = 16 * u2 + op) : EVM C L W u u2 (p1 + p2) (v1.bind (fun a => if (a = 1 ↔ op = 12) then some a else v2)) := by
  intro st r hs
  have g1 := h1 st
  cases v1 with
  | none => exact g1 none (by omega)
  | some a =>
    have e : mstep C L W u1 (a :: st) = if (a = 1 ↔ op = 12) then .inl (u2, a :: st) else .inl (u1 + 1, st) := by
      unfold mstep
      rw [hc, show (16 * u2 + op) % 16 = op by omega, show (16 * u2 + op) / 16 = u2 by omega, if_neg (by omega), if_neg (by omega)]
      simp only
      rw [if_neg (by omega), if_neg (by omega), if_pos ho, show max u1 (u2 - 1) + 1 = u2 by omega]
    show EVQ C L W u u2 st r (if (a = 1 ↔ op = 12) then some a else v2)
    by_cases q : (a = 1 ↔ op = 12)
    · rw [if_pos q] at e ⊢
      exact fun hr => g1 r (by omega) (RUN.step e hr)
    · rw [if_neg q] at e ⊢
      have g2 := h2 st
      cases v2 with
      | none => exact g1 none (by omega) (RUN.step e (g2 none (by omega)))
      | some b => exact fun hr => g1 r (by omega) (RUN.step e (g2 r (by omega) hr))
theorem EVM_stop {u u1 p1 : Nat} {v1 : Option Int} (h1 : EVM C L W u u1 p1 v1) (hp : p1 ≤ 64) (hu : u1 < L) (hc : C u1 = 0) : RUN C L W u [] v1 := by
  have g1 := h1 [] v1 (by simp; omega)
  cases v1 with
  | none => exact g1
  | some a =>
    apply g1
    apply RUN.stop
    unfold mstep
    rw [hc, if_neg (by omega), if_neg (by decide)]
    rfl
end
