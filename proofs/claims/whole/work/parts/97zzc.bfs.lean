/-! a search in breadth, over any graph -/
def wk (adj : Nat → Nat → Prop) (a : Nat) : Nat → Nat → Prop
  | 0, p => p = a
  | d + 1, p => ∃ q, wk adj a d q ∧ adj q p
/-- the fewest STEPS from a -/
def isD (adj : Nat → Nat → Prop) (a p d : Nat) : Prop := wk adj a d p ∧ ∀ e, e < d → ¬ wk adj a e p
theorem isD_un {adj : Nat → Nat → Prop} {a p d e : Nat} (h : isD adj a p d) (h2 : isD adj a p e) : d = e := by
  rcases Nat.lt_trichotomy d e with w | w | w
  · exact absurd h.1 (h2.2 d w)
  · exact w
  · exact absurd h2.1 (h.2 e w)
theorem isD_ex {adj : Nat → Nat → Prop} {a p : Nat} : ∀ d, wk adj a d p → ∃ e, e ≤ d ∧ isD adj a p e := by
  intro d
  induction d using Nat.strongRecOn with
  | ind d ih =>
    intro h
    by_cases w : ∃ e, e < d ∧ wk adj a e p
    · obtain ⟨e, h1, h2⟩ := w
      obtain ⟨e', g1, g2⟩ := ih e h1 h2
      exact ⟨e', by omega, g2⟩
    · exact ⟨d, Nat.le_refl _, h, fun e he q => w ⟨e, he, q⟩⟩
def BFS (adj : Nat → Nat → Prop) (a : Nat) (Q : List Nat) (k : Nat) (D : Nat → Option Nat) : Prop :=
  Q[0]? = some a ∧ (∀ p : Nat, p ∈ Q ↔ ∃ d, D p = some d) ∧ Q.Nodup ∧ (∀ p d : Nat, D p = some d → isD adj a p d) ∧
  (∀ i j p q d e : Nat, i ≤ j → Q[i]? = some p → Q[j]? = some q → D p = some d → D q = some e → d ≤ e) ∧
  (∀ i p q : Nat, i < k → Q[i]? = some p → adj p q → q ∈ Q) ∧
  (∀ p q d e : Nat, Q[k]? = some p → q ∈ Q → D p = some d → D q = some e → e ≤ d + 1) ∧ k ≤ Q.length ∧ (∀ i p d : Nat, Q[i]? = some p → D p = some d → d ≤ i)
theorem BFS.start {adj : Nat → Nat → Prop} {a : Nat} {D : Nat → Option Nat} (h0 : D a = some 0) (hn : ∀ p, p ≠ a → D p = none) : BFS adj a [a] 0 D := by
  have one : ∀ p d, D p = some d → p = a ∧ d = 0 := fun p d e => by
    by_cases w : p = a
    · subst w
      rw [h0] at e
      cases e
      exact ⟨rfl, rfl⟩
    · rw [hn p w] at e
      cases e
  refine ⟨rfl, fun p => ?_, by simp, fun p d e => ?_, fun i j p q d e _ _ _ h1 h2 => ?_, fun i p q h => by omega, fun p q d e _ _ h1 h2 => ?_, Nat.zero_le _, fun i p d _ h1 => by rw [(one p d h1).2]; exact Nat.zero_le _⟩
  · constructor
    · intro h
      rw [List.mem_singleton] at h
      exact ⟨0, by rw [h]; exact h0⟩
    · rintro ⟨d, e⟩
      rw [(one p d e).1]
      exact List.mem_singleton.mpr rfl
  · obtain ⟨rfl, rfl⟩ := one p d e
    exact ⟨rfl, fun e he => by omega⟩
  · have := (one p d h1).2
    omega
  · have := (one q e h2).2
    omega
/-- all that lie nearer than the head, or as near, are found -/
theorem BFS.near {adj : Nat → Nat → Prop} {a : Nat} {Q : List Nat} {k : Nat} {D : Nat → Option Nat} (h : BFS adj a Q k D) {p d : Nat} (hp : Q[k]? = some p) (hd : D p = some d) : ∀ e r, e ≤ d → isD adj a r e → r ∈ Q := by
  obtain ⟨h1, h2, h3, h4, h5, h6, h7, h8, h9⟩ := h
  intro e
  induction e with
  | zero =>
    intro r _ hr
    rw [show r = a from hr.1]
    exact List.mem_of_getElem? h1
  | succ e ih =>
    intro r he hr
    obtain ⟨r', g1, g2⟩ := hr.1
    obtain ⟨e', f1, f2⟩ := isD_ex e g1
    have : e' = e := by
      refine Classical.byContradiction (fun q => ?_)
      exact hr.2 (e' + 1) (by omega) ⟨r', f2.1, g2⟩
    subst this
    have hm := ih r' (by omega) f2
    obtain ⟨i, hi, ei⟩ := List.getElem_of_mem hm
    have ei' : Q[i]? = some r' := by rw [List.getElem?_eq_getElem hi, ei]
    obtain ⟨dd, hdd⟩ := (h2 r').mp hm
    have hde : dd = e' := isD_un (h4 r' dd hdd) f2
    subst hde
    refine h6 i r' r ?_ ei' g2
    refine Classical.byContradiction (fun q => ?_)
    have := h5 k i p r' d dd (by omega) hp ei' hd hdd
    omega
/-- a neighbour of the head that was not found yet -/
theorem BFS.add {adj : Nat → Nat → Prop} {a : Nat} {Q : List Nat} {k : Nat} {D D' : Nat → Option Nat} (h : BFS adj a Q k D) {p d q : Nat} (hp : Q[k]? = some p) (hd : D p = some d) (hq : adj p q) (hn : D q = none) (hD : ∀ r, D' r = if r = q then some (d + 1) else D r) : BFS adj a (Q ++ [q]) k D' := by
  have near := h.near hp hd
  obtain ⟨h1, h2, h3, h4, h5, h6, h7, h8, h9⟩ := h
  have hk : k < Q.length := (List.getElem?_eq_some_iff.mp hp).1
  have hq' : q ∉ Q := fun w => by
    obtain ⟨e, he⟩ := (h2 q).mp w
    rw [hn] at he
    cases he
  have old : ∀ r, r ∈ Q → D' r = D r := fun r hr => by
    rw [hD, if_neg (fun w => hq' (by rw [← w]; exact hr))]
  have newq : D' q = some (d + 1) := by rw [hD, if_pos rfl]
  have hpm : p ∈ Q := List.mem_of_getElem? hp
  have hisq : isD adj a q (d + 1) := by
    refine ⟨⟨p, (h4 p d hd).1, hq⟩, fun e he w => ?_⟩
    obtain ⟨e', g1, g2⟩ := isD_ex e w
    exact hq' (near e' q (by omega) g2)
  have lf : ∀ i r, (Q ++ [q])[i]? = some r → (i < Q.length ∧ Q[i]? = some r ∧ r ∈ Q) ∨ (i = Q.length ∧ r = q) := fun i r e => by
    by_cases w : i < Q.length
    · rw [List.getElem?_append_left w] at e
      exact Or.inl ⟨w, e, List.mem_of_getElem? e⟩
    · rw [List.getElem?_append_right (by omega)] at e
      have hi : i - Q.length = 0 := by
        have := (List.getElem?_eq_some_iff.mp e).1
        rw [List.length_singleton] at this
        omega
      rw [hi] at e
      cases e
      exact Or.inr ⟨by omega, rfl⟩
  have bd : ∀ r e, r ∈ Q → D r = some e → e ≤ d + 1 := fun r e hr he => h7 p r d e hp hr hd he
  refine ⟨?_, fun r => ?_, ?_, fun r e he => ?_, fun i j r s e f hij hr hs he hf => ?_, fun i r s hi hr ha => ?_, fun r s e f hr hs he hf => ?_, by rw [List.length_append]; omega, fun i r e hr he => ?_⟩
  · rw [List.getElem?_append_left (by omega)]
    exact h1
  · rw [List.mem_append, List.mem_singleton, hD]
    constructor
    · rintro (w | w)
      · rw [if_neg (fun z => hq' (by rw [← z]; exact w))]
        exact (h2 r).mp w
      · exact ⟨d + 1, if_pos w⟩
    · rintro ⟨e, he⟩
      by_cases w : r = q
      · exact Or.inr w
      · rw [if_neg w] at he
        exact Or.inl ((h2 r).mpr ⟨e, he⟩)
  · rw [List.nodup_append]
    refine ⟨h3, by simp, fun x hx y hy e => ?_⟩
    rw [List.mem_singleton] at hy
    subst hy
    subst e
    exact hq' hx
  · rw [hD] at he
    by_cases w : r = q
    · rw [if_pos w] at he
      cases he
      rw [w]
      exact hisq
    · rw [if_neg w] at he
      exact h4 r e he
  · rcases lf i r hr with ⟨a1, a2, a3⟩ | ⟨a1, a2⟩
    · rw [old r a3] at he
      rcases lf j s hs with ⟨b1', b2, b3⟩ | ⟨b1', b2⟩
      · rw [old s b3] at hf
        exact h5 i j r s e f hij a2 b2 he hf
      · rw [b2, newq] at hf
        cases hf
        exact bd r e a3 he
    · rcases lf j s hs with ⟨b1', b2, b3⟩ | ⟨b1', b2⟩
      · omega
      · rw [a2, newq] at he
        rw [b2, newq] at hf
        cases he
        cases hf
        omega
  · rcases lf i r hr with ⟨a1, a2, a3⟩ | ⟨a1, a2⟩
    · exact List.mem_append_left _ (h6 i r s hi a2 ha)
    · omega
  · rcases lf k r hr with ⟨a1, a2, a3⟩ | ⟨a1, a2⟩
    · rw [hp] at a2
      cases a2
      rw [old p hpm, hd] at he
      cases he
      rcases List.mem_append.mp hs with w | w
      · rw [old s w] at hf
        exact bd s f w hf
      · rw [List.mem_singleton] at w
        rw [w, newq] at hf
        cases hf
        omega
    · omega
  · rcases lf i r hr with ⟨a1, a2, a3⟩ | ⟨a1, a2⟩
    · rw [old r a3] at he
      exact h9 i r e a2 he
    · rw [a2, newq] at he
      cases he
      have := h9 k p d hp hd
      omega
/-- the head is done -/
theorem BFS.next {adj : Nat → Nat → Prop} {a : Nat} {Q : List Nat} {k : Nat} {D : Nat → Option Nat} (h : BFS adj a Q k D) {p : Nat} (hp : Q[k]? = some p) (hall : ∀ q, adj p q → q ∈ Q) : BFS adj a Q (k + 1) D := by
  obtain ⟨h1, h2, h3, h4, h5, h6, h7, h8, h9⟩ := h
  have hk : k < Q.length := (List.getElem?_eq_some_iff.mp hp).1
  obtain ⟨dp, hdp⟩ := (h2 p).mp (List.mem_of_getElem? hp)
  refine ⟨h1, h2, h3, h4, h5, fun i r s hi hr ha => ?_, fun r s e f hr hs he hf => ?_, by omega, h9⟩
  · by_cases w : i = k
    · subst w
      rw [hp] at hr
      cases hr
      exact hall s ha
    · exact h6 i r s (by omega) hr ha
  · have := h5 k (k + 1) p r dp e (by omega) hp hr hdp he
    have := h7 p s dp f hp hs hdp hf
    omega
/-- all is found -/
theorem BFS.done {adj : Nat → Nat → Prop} {a : Nat} {Q : List Nat} {D : Nat → Option Nat} (h : BFS adj a Q Q.length D) : ∀ d p, wk adj a d p → p ∈ Q := by
  obtain ⟨h1, h2, h3, h4, h5, h6, h7, h8, h9⟩ := h
  intro d
  induction d with
  | zero =>
    intro p hp
    rw [show p = a from hp]
    exact List.mem_of_getElem? h1
  | succ d ih =>
    rintro p ⟨q, g1, g2⟩
    obtain ⟨i, hi, ei⟩ := List.getElem_of_mem (ih q g1)
    exact h6 i q p hi (by rw [List.getElem?_eq_getElem hi, ei]) g2

/-- what lies nearer than one that is found is found -/
theorem BFS.below {adj : Nat → Nat → Prop} {a : Nat} {Q : List Nat} {k : Nat} {D : Nat → Option Nat} (h : BFS adj a Q k D) {p d : Nat} (hd : D p = some d) {r e : Nat} (he : e < d) (hr : isD adj a r e) : D r = some e := by
  have hp : p ∈ Q := (h.2.1 p).mpr ⟨d, hd⟩
  have hm : r ∈ Q := by
    by_cases w : k < Q.length
    · have ek := List.getElem?_eq_getElem w
      obtain ⟨dk, hdk⟩ := (h.2.1 _).mp (List.getElem_mem w)
      have := h.2.2.2.2.2.2.1 _ p dk d ek hp hdk hd
      exact h.near ek hdk e r (by omega) hr
    · have hk : k = Q.length := by have := h.2.2.2.2.2.2.2.1; omega
      subst hk
      exact h.done e r hr.1
  obtain ⟨e', he'⟩ := (h.2.1 r).mp hm
  rw [he', isD_un (h.2.2.2.1 r e' he') hr]
/-- the table is full -/
theorem BFS.full {adj : Nat → Nat → Prop} {a : Nat} {Q : List Nat} {D : Nat → Option Nat} (h : BFS adj a Q Q.length D) (p d : Nat) : D p = some d ↔ isD adj a p d := by
  refine ⟨h.2.2.2.1 p d, fun hr => ?_⟩
  obtain ⟨e', he'⟩ := (h.2.1 p).mp (h.done d p hr.1)
  rw [he', isD_un (h.2.2.2.1 p e' he') hr]
/-- ways, from both ends -/
theorem wk_app {adj : Nat → Nat → Prop} {a b c d : Nat} (h1 : wk adj a d b) : ∀ e, ∀ {c : Nat}, wk adj b e c → wk adj a (d + e) c
  | 0, c, h2 => by
    rw [show c = b from h2]
    exact h1
  | e + 1, c, ⟨q, g1, g2⟩ => ⟨q, wk_app (c := c) h1 e g1, g2⟩
theorem wk_rev {adj radj : Nat → Nat → Prop} (hr : ∀ p q, adj p q → radj q p) {a : Nat} : ∀ d b, wk adj a d b → wk radj b d a
  | 0, b, h => (show b = a from h).symm
  | d + 1, b, ⟨q, g1, g2⟩ => by
    have ih := wk_rev hr d q g1
    have h1 : wk radj b 1 q := ⟨b, rfl, hr q b g2⟩
    have := wk_app (c := a) h1 d ih
    rw [Nat.add_comm] at this
    exact this
theorem isD_rev {adj radj : Nat → Nat → Prop} (hr : ∀ p q, adj p q ↔ radj q p) {a b d : Nat} : isD adj a b d ↔ isD radj b a d :=
  ⟨fun h => ⟨wk_rev (fun p q => (hr p q).mp) d b h.1, fun e he q => h.2 e he (wk_rev (fun p q => (hr q p).mpr) e a q)⟩, fun h => ⟨wk_rev (fun p q => (hr q p).mpr) d a h.1, fun e he q => h.2 e he (wk_rev (fun p q => (hr p q).mp) e b q)⟩⟩
