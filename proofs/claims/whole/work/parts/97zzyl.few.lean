/-! LINES: the fewest STEPS in all -/
def cst (W : Nat → Nat → Nat) (m : Nat → Option Nat) (k : Nat) : Nat := match m k with
  | none => 0
  | some i => W i k
def csm (W : Nat → Nat → Nat) (m : Nat → Option Nat) (P : Nat → Bool) : Nat → Nat
  | 0 => 0
  | k + 1 => csm W m P k + (if P k then cst W m k else 0)
theorem csm_same {W : Nat → Nat → Nat} {m : Nat → Option Nat} {P P' : Nat → Bool} : ∀ n, (∀ k, k < n → P k = P' k) → csm W m P n = csm W m P' n
  | 0, _ => rfl
  | n + 1, h => by rw [csm, csm, csm_same n (fun k hk => h k (by omega)), h n (by omega)]
theorem csm_rm {W : Nat → Nat → Nat} {m : Nat → Option Nat} {P P' : Nat → Bool} {d : Nat} (hP : P d = true) (hP' : ∀ k, P' k = (P k && decide (k ≠ d))) : ∀ n, d < n → csm W m P n = csm W m P' n + cst W m d
  | 0, h => by omega
  | n + 1, h => by
    rw [csm, csm]
    by_cases w : d = n
    · subst w
      have e : csm W m P d = csm W m P' d := csm_same d (fun k hk => by rw [hP' k]; simp [show k ≠ d by omega])
      rw [e, hP, hP' d]
      simp
    · rw [csm_rm hP hP' n (by omega), hP' n]
      have : decide (n ≠ d) = true := by simp; omega
      rw [this, Bool.and_true]
      omega
theorem csm_cg {W : Nat → Nat → Nat} {m m' : Nat → Option Nat} {P : Nat → Bool} : ∀ n, (∀ k, k < n → P k = true → m k = m' k) → csm W m P n = csm W m' P n
  | 0, _ => rfl
  | n + 1, h => by
    rw [csm, csm, csm_cg n (fun k hk => h k (by omega))]
    by_cases w : P n = true
    · rw [if_pos w, if_pos w]
      unfold cst
      rw [h n (by omega) w]
    · rw [if_neg w, if_neg w]
def NRS (W : Nat → Nat → Nat) (n : Nat) (P : Nat → Bool) (d x : Nat) : Prop := x ≤ 1000000 ∧ (∀ i, i < n → P i = true → x ≤ W i d) ∧ (x = 1000000 ∨ ∃ i, i < n ∧ P i = true ∧ x = W i d)
theorem NRS.un {W : Nat → Nat → Nat} {n : Nat} {P : Nat → Bool} {d x x' : Nat} (h : NRS W n P d x) (h' : NRS W n P d x') : x = x' := by
  have key : ∀ a b, NRS W n P d a → NRS W n P d b → a ≤ b := fun a b ha hb => by
    rcases hb.2.2 with q | ⟨i, q1, q2, q3⟩
    · rw [q]; exact ha.1
    · rw [q3]; exact ha.2.1 i q1 q2
  exact Nat.le_antisymm (key x x' h h') (key x' x h' h)
def clr (b d : Nat) : Nat := b &&& (63 ^^^ 2 ^ d)
theorem clr_bit {b d : Nat} (hb : b < 64) (hd : d < 6) (k : Nat) : (clr b d).testBit k = (b.testBit k && decide (k ≠ d)) := by
  by_cases w : k < 6
  · have : ∀ b, b < 64 → ∀ d, d < 6 → ∀ k, k < 6 → (clr b d).testBit k = (b.testBit k && decide (k ≠ d)) := by decide +kernel
    exact this b hb d hd k w
  · have e1 : b.testBit k = false := Nat.testBit_lt_two_pow (Nat.lt_of_lt_of_le hb (Nat.pow_le_pow_right (n := 2) (by omega) (show 6 ≤ k by omega)))
    have hc : clr b d < 64 := Nat.lt_of_le_of_lt Nat.and_le_left hb
    have e2 : (clr b d).testBit k = false := Nat.testBit_lt_two_pow (Nat.lt_of_lt_of_le hc (Nat.pow_le_pow_right (n := 2) (by omega) (show 6 ≤ k by omega)))
    rw [e1, e2, Bool.false_and]
theorem clr_lt : ∀ b, b < 64 → ∀ d, d < 6 → b.testBit d = true → clr b d < b := by decide +kernel
def SNG (n b : Nat) : Prop := ∃ d, d < n ∧ b = 2 ^ d
/-- what the table of sets tells -/
def FEW (W : Nat → Nat → Nat) (n : Nat) (F : Nat → Nat) : Prop := ∀ b, 1 ≤ b → b < 2 ^ n → (SNG n b → F b = 0) ∧ (¬ SNG n b → F b ≤ 1000000 ∧ (∀ d x, d < n → b.testBit d = true → NRS W n (clr b d).testBit d x → F b ≤ F (clr b d) + x) ∧ (F b = 1000000 ∨ ∃ d x, d < n ∧ b.testBit d = true ∧ NRS W n (clr b d).testBit d x ∧ F b = F (clr b d) + x))
def SUBT (m : Nat → Option Nat) (P : Nat → Bool) (n : Nat) : Prop := (∀ k i, k < n → P k = true → m k = some i → i < n ∧ P i = true) ∧ (∀ k, k < n → P k = true → ∃ s, pth m n s k = none) ∧ ∃ r, r < n ∧ P r = true ∧ m r = none ∧ ∀ k, k < n → P k = true → m k = none → k = r
theorem nrs_ex (W : Nat → Nat → Nat) (P : Nat → Bool) (d : Nat) : ∀ n, ∃ x, NRS W n P d x
  | 0 => ⟨1000000, Nat.le_refl _, (fun i hi => by omega), Or.inl rfl⟩
  | n + 1 => by
    obtain ⟨x, h1, h2, h3⟩ := nrs_ex W P d n
    by_cases w : P n = true ∧ W n d < x
    · refine ⟨W n d, by omega, fun i hi hp => ?_, Or.inr ⟨n, by omega, w.1, rfl⟩⟩
      by_cases z : i = n
      · rw [z]; exact Nat.le_refl _
      · have := h2 i (by omega) hp
        omega
    · refine ⟨x, h1, fun i hi hp => ?_, ?_⟩
      · by_cases z : i = n
        · rw [z] at hp ⊢
          exact Nat.le_of_not_lt (fun q => w ⟨hp, q⟩)
        · exact h2 i (by omega) hp
      · rcases h3 with q | ⟨i, q1, q2, q3⟩
        · exact Or.inl q
        · exact Or.inr ⟨i, by omega, q2, q3⟩
theorem max_ex (f : Nat → Nat) (P : Nat → Bool) : ∀ n, (∃ k, k < n ∧ P k = true) → ∃ d, d < n ∧ P d = true ∧ ∀ k, k < n → P k = true → f k ≤ f d
  | 0, ⟨k, h, _⟩ => by omega
  | n + 1, ⟨k, h1, h2⟩ => by
    by_cases w : ∃ k, k < n ∧ P k = true
    · obtain ⟨d, g1, g2, g3⟩ := max_ex f P n w
      by_cases z : P n = true ∧ f d < f n
      · refine ⟨n, by omega, z.1, fun k hk hp => ?_⟩
        by_cases u : k = n
        · rw [u]; exact Nat.le_refl _
        · have := g3 k (by omega) hp
          omega
      · refine ⟨d, by omega, g2, fun k hk hp => ?_⟩
        by_cases u : k = n
        · rw [u] at hp ⊢
          exact Nat.le_of_not_lt (fun q => z ⟨hp, q⟩)
        · exact g3 k (by omega) hp
    · have : k = n := by
        refine Classical.byContradiction (fun q => w ⟨k, by omega, h2⟩)
      subst this
      refine ⟨k, by omega, h2, fun j hj hp => ?_⟩
      by_cases u : j = k
      · rw [u]; exact Nat.le_refl _
      · exact absurd ⟨j, by omega, hp⟩ w
theorem least_ex {P : Nat → Prop} : ∀ s, P s → ∃ t, t ≤ s ∧ P t ∧ ∀ u, u < t → ¬ P u := by
  intro s
  induction s using Nat.strongRecOn with
  | ind s ih =>
    intro h
    by_cases w : ∃ t, t < s ∧ P t
    · obtain ⟨t, h1, h2⟩ := w
      obtain ⟨s', g1, g2, g3⟩ := ih t h1 h2
      exact ⟨s', by omega, g2, g3⟩
    · exact ⟨s, Nat.le_refl _, h, fun t ht q => w ⟨t, ht, q⟩⟩
/-- how far below the first MOTHER -/
noncomputable def dep (m : Nat → Option Nat) (n k : Nat) : Nat := @dite _ (∃ t, pth m n t k = none ∧ ∀ u, u < t → ¬ pth m n u k = none) (Classical.propDecidable _) (fun h => Classical.choose h) (fun _ => 0)
theorem dep_v {m : Nat → Option Nat} {n k s : Nat} (h : pth m n s k = none) : pth m n (dep m n k) k = none ∧ ∀ u, u < dep m n k → ¬ pth m n u k = none := by
  obtain ⟨t, _, h2, h3⟩ := least_ex (P := fun s => pth m n s k = none) s h
  have hx : ∃ t, pth m n t k = none ∧ ∀ u, u < t → ¬ pth m n u k = none := ⟨t, h2, h3⟩
  unfold dep
  rw [dif_pos hx]
  exact Classical.choose_spec hx
/-- no tree has fewer STEPS -/
theorem few_le {W : Nat → Nat → Nat} {n : Nat} (hn : n ≤ 6) {F : Nat → Nat} (hF : FEW W n F) {m : Nat → Option Nat} : ∀ b, 1 ≤ b → b < 2 ^ n → SUBT m b.testBit n → F b ≤ csm W m b.testBit n := by
  have h64 : 2 ^ n ≤ 64 := Nat.le_trans (Nat.pow_le_pow_right (by omega) hn) (by decide)
  intro b
  induction b using Nat.strongRecOn with
  | ind b ih =>
    intro hb1 hb hS
    by_cases w : SNG n b
    · rw [(hF b hb1 hb).1 w]
      exact Nat.zero_le _
    · obtain ⟨s1, s2, r, r1, r2, r3, r4⟩ := id hS
      obtain ⟨d, d1, d2, d3⟩ := max_ex (dep m n) b.testBit n ⟨r, r1, r2⟩
      have up : ∀ k i, k < n → b.testBit k = true → m k = some i → dep m n i < dep m n k := fun k i hk hp hm => by
        obtain ⟨s, hs⟩ := s2 k hk hp
        obtain ⟨i1, i2⟩ := s1 k i hk hp hm
        obtain ⟨si, hsi⟩ := s2 i i1 i2
        have v := (dep_v hs).1
        have vi := dep_v hsi
        cases hd : dep m n k with
        | zero =>
          rw [hd] at v
          cases v
        | succ t =>
          rw [hd, pth, if_pos hk, hm] at v
          have v : pth m n t i = none := v
          refine Classical.byContradiction (fun z => ?_)
          exact vi.2 t (by omega) v
      have noM : ∀ k, k < n → b.testBit k = true → m k ≠ some d := fun k hk hp hm => by
        have := up k d hk hp hm
        have := d3 k hk hp
        omega
      -- the deepest is no first MOTHER
      cases hmd : m d with
      | none =>
        exfalso
        refine w ⟨d, d1, Nat.eq_of_testBit_eq (fun k => ?_)⟩
        rw [Nat.testBit_two_pow]
        by_cases z : d = k
        · subst z
          rw [d2]
          simp
        · rw [show decide (d = k) = false from by simp [z]]
          refine Bool.eq_false_iff.mpr (fun hk => ?_)
          have hkn : k < n := by
            refine Classical.byContradiction (fun q => ?_)
            rw [Nat.testBit_lt_two_pow (Nat.lt_of_lt_of_le hb (Nat.pow_le_pow_right (by omega) (show n ≤ k by omega)))] at hk
            cases hk
          have hdr := r4 d d1 d2 hmd
          cases hmk : m k with
          | none => exact z ((hdr).trans (r4 k hkn hk hmk).symm)
          | some i =>
            have h1 := up k i hkn hk hmk
            have h2 := d3 k hkn hk
            obtain ⟨i1, i2⟩ := s1 k i hkn hk hmk
            have hd1 : dep m n d = 1 ∨ dep m n d = 0 := by
              obtain ⟨s, hs⟩ := s2 d d1 d2
              have v := dep_v hs
              refine Classical.byContradiction (fun q => ?_)
              refine v.2 1 (by omega) ?_
              rw [pth, if_pos d1, hmd]
            have hi0 : dep m n i ≠ 0 := fun q => by
              obtain ⟨s, hs⟩ := s2 i i1 i2
              have v := (dep_v hs).1
              rw [q] at v
              cases v
            omega
      | some i =>
        obtain ⟨i1, i2⟩ := s1 d i d1 d2 hmd
        have hid : i ≠ d := fun q => by
          have := up d i d1 d2 hmd
          rw [q] at this
          omega
        have hbit := clr_bit (b := b) (d := d) (by omega) (by omega)
        have hP' : ∀ k, (clr b d).testBit k = true ↔ (b.testBit k = true ∧ k ≠ d) := fun k => by
          rw [hbit k]
          simp
        obtain ⟨x, hx⟩ := nrs_ex W (clr b d).testBit d n
        have hlt := clr_lt b (by omega) d (by omega) d2
        have hrd : r ≠ d := fun q => by rw [q, hmd] at r3; cases r3
        have hc1 : 1 ≤ clr b d := by
          refine Nat.pos_of_ne_zero (fun q => ?_)
          have := (hP' r).mpr ⟨r2, hrd⟩
          rw [q] at this
          simp at this
        have hS' : SUBT m (clr b d).testBit n := by
          refine ⟨fun k j hk hp hm => ?_, fun k hk hp => s2 k hk ((hP' k).mp hp).1, r, r1, (hP' r).mpr ⟨r2, hrd⟩, r3, fun k hk hp hm => r4 k hk ((hP' k).mp hp).1 hm⟩
          obtain ⟨p1, p2⟩ := (hP' k).mp hp
          obtain ⟨j1, j2⟩ := s1 k j hk p1 hm
          exact ⟨j1, (hP' j).mpr ⟨j2, fun q => noM k hk p1 (by rw [hm, q])⟩⟩
        have h1 := ih (clr b d) hlt hc1 (by omega) hS'
        have h2 := ((hF b hb1 hb).2 w).2.1 d x d1 d2 hx
        have h3 := hx.2.1 i i1 ((hP' i).mpr ⟨i2, hid⟩)
        have h4 := csm_rm (W := W) (m := m) d2 hbit n d1
        have h5 : cst W m d = W i d := by
          unfold cst
          rw [hmd]
        omega
/-- a tree has so few -/
theorem few_ge {W : Nat → Nat → Nat} {n : Nat} (hn : n ≤ 6) {F : Nat → Nat} (hF : FEW W n F) : ∀ b, 1 ≤ b → b < 2 ^ n → F b < 1000000 → ∃ m, SUBT m b.testBit n ∧ csm W m b.testBit n = F b := by
  have h64 : 2 ^ n ≤ 64 := Nat.le_trans (Nat.pow_le_pow_right (by omega) hn) (by decide)
  intro b
  induction b using Nat.strongRecOn with
  | ind b ih =>
    intro hb1 hb hl
    by_cases w : SNG n b
    · rw [(hF b hb1 hb).1 w]
      obtain ⟨d, d1, rfl⟩ := w
      refine ⟨fun _ => none, ⟨fun k i _ _ q => (by cases q), fun k hk _ => ⟨1, by rw [pth, if_pos hk]⟩, d, d1, by rw [Nat.testBit_two_pow]; simp, rfl, fun k _ hp _ => ?_⟩, ?_⟩
      · rw [Nat.testBit_two_pow] at hp
        simp at hp
        exact hp.symm
      · have : ∀ j, csm W (fun _ => none) (2 ^ d).testBit j = 0 := by
          intro j
          induction j with
          | zero => rfl
          | succ j ih =>
            rw [csm, ih]
            unfold cst
            simp
        exact this n
    · obtain ⟨-, f2, f3⟩ := (hF b hb1 hb).2 w
      rcases f3 with q | ⟨d, x, d1, d2, hx, e⟩
      · omega
      · have hbit := clr_bit (b := b) (d := d) (by omega) (by omega)
        have hP' : ∀ k, (clr b d).testBit k = true ↔ (b.testBit k = true ∧ k ≠ d) := fun k => by
          rw [hbit k]
          simp
        rcases hx.2.2 with q | ⟨i, i1, i2, i3⟩
        · omega
        · obtain ⟨i4, i5⟩ := (hP' i).mp i2
          have hlt := clr_lt b (by omega) d (by omega) d2
          have hc1 : 1 ≤ clr b d := by
            refine Nat.pos_of_ne_zero (fun q => ?_)
            rw [q] at i2
            simp at i2
          obtain ⟨m', ⟨s1, s2, r, r1, r2, r3, r4⟩, hm'⟩ := ih (clr b d) hlt hc1 (by omega) (by omega)
          have mk : ∀ k, k ≠ d → (fun k => if k = d then some i else m' k) k = m' k := fun k hk => if_neg hk
          have hpth : ∀ s k, k < n → (clr b d).testBit k = true → pth (fun k => if k = d then some i else m' k) n s k = pth m' n s k := by
            intro s
            induction s with
            | zero => intro k _ _; rfl
            | succ s ih2 =>
              intro k hk hp
              have hkd := ((hP' k).mp hp).2
              rw [pth, pth, if_pos hk, if_pos hk]
              simp only [if_neg hkd]
              cases hmk : m' k with
              | none => rfl
              | some j =>
                obtain ⟨j1, j2⟩ := s1 k j hk hp hmk
                exact ih2 j j1 j2
          refine ⟨fun k => if k = d then some i else m' k, ⟨fun k j hk hp hm => ?_, fun k hk hp => ?_, r, r1, ((hP' r).mp r2).1, ?_, fun k hk hp hm => ?_⟩, ?_⟩
          · by_cases z : k = d
            · have hm : (if k = d then some i else m' k) = some j := hm
              rw [if_pos z] at hm
              cases hm
              exact ⟨i1, i4⟩
            · have hm : (if k = d then some i else m' k) = some j := hm
              rw [if_neg z] at hm
              obtain ⟨j1, j2⟩ := s1 k j hk ((hP' k).mpr ⟨hp, z⟩) hm
              exact ⟨j1, ((hP' j).mp j2).1⟩
          · by_cases z : k = d
            · obtain ⟨s, hs⟩ := s2 i i1 i2
              refine ⟨s + 1, ?_⟩
              rw [pth, if_pos hk]
              simp only [if_pos z]
              rw [hpth s i i1 i2]
              exact hs
            · obtain ⟨s, hs⟩ := s2 k hk ((hP' k).mpr ⟨hp, z⟩)
              exact ⟨s, by rw [hpth s k hk ((hP' k).mpr ⟨hp, z⟩)]; exact hs⟩
          · show (if r = d then some i else m' r) = none
            rw [if_neg ((hP' r).mp r2).2]
            exact r3
          · have hm : (if k = d then some i else m' k) = none := hm
            by_cases z : k = d
            · rw [if_pos z] at hm
              cases hm
            · rw [if_neg z] at hm
              exact r4 k hk ((hP' k).mpr ⟨hp, z⟩) hm
          · have h4 := csm_rm (W := W) (m := fun k => if k = d then some i else m' k) d2 hbit n d1
            have h5 : cst W (fun k => if k = d then some i else m' k) d = W i d := by
              unfold cst
              simp
            have h6 : csm W (fun k => if k = d then some i else m' k) (clr b d).testBit n = csm W m' (clr b d).testBit n := csm_cg n (fun k _ hp => mk k ((hP' k).mp hp).2)
            omega
