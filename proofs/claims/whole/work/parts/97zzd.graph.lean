/-! the graph of all changes, on ranks -/
def adjK (K : Nat → Int32) (y p q : Nat) : Prop := p < 9331 ∧ ∃ c, c ∈ EDG K y (dR p) ∧ rank c.1 = q
def rdjK (K : Nat → Int32) (y p q : Nat) : Prop := adjK K y q p
theorem dR_rank {l : List Nat} (hl : DL l) : dR (rank l) = l := by
  obtain ⟨h1, h2⟩ := dR_v (rank_lt hl)
  exact (rank_inj h1 hl).mp (by rw [h2])
theorem rank_eq {l l2 : List Nat} (h : DL l) (h2 : DL l2) : rank l = rank l2 ↔ l = l2 := by
  constructor
  · intro e
    exact (rank_inj h h2).mp (by rw [e])
  · intro e
    rw [e]
/-- a change of this kind can be -/
def WOK (K : Nat → Int32) (y s t p n h : Nat) : Prop := wq (gtK K) (lwK K y) s t p n h ≠ none
theorem adjK_l {K : Nat → Int32} (hk : KTH K) {y : Nat} {l l' : List Nat} (hl : DL l) (hl' : DL l') : adjK K y (rank l') (rank l) ↔ ∃ s p t th, s < 5 ∧ p ≤ l'.length ∧ t < thn s ∧ chg (sdK K) l' s p t = some (l, th) ∧ WOK K y s th p l'.length (l'.count th) := by
  unfold adjK
  rw [dR_rank hl']
  constructor
  · rintro ⟨_, c, hc, e⟩
    have hd := (EDG_DL hk hl' hc).1
    have ec : c.1 = l := (rank_eq hd hl).mp e
    obtain ⟨s, p, t, h1, h2, h3, h4⟩ := mem_chs.mp hc
    unfold cmk at h4
    cases hg : chg (sdK K) l' s p t with
    | none =>
      rw [hg] at h4
      cases h4
    | some g =>
      rw [hg] at h4
      obtain ⟨g1, th⟩ := g
      simp only [Option.bind_some] at h4
      cases hw : wq (gtK K) (lwK K y) s th p l'.length (l'.count th) with
      | none =>
        rw [hw] at h4
        cases h4
      | some w =>
        rw [hw] at h4
        have h5 : (g1, w) = c := Option.some.inj h4
        have h6 : g1 = l := by rw [← ec, ← h5]
        subst h6
        exact ⟨s, p, t, th, h1, h2, h3, hg, by unfold WOK; rw [hw]; exact fun q => by cases q⟩
  · rintro ⟨s, p, t, th, h1, h2, h3, h4, h5⟩
    refine ⟨rank_lt hl', ?_⟩
    cases hw : wq (gtK K) (lwK K y) s th p l'.length (l'.count th) with
    | none => exact absurd hw h5
    | some w =>
      refine ⟨(l, w), mem_chs.mpr ⟨s, p, t, h1, h2, h3, ?_⟩, rfl⟩
      unfold cmk
      rw [h4]
      simp only [Option.bind_some]
      rw [hw]
      rfl
/-- what leads to a DISH, by the kinds of changes -/
def PO (K : Nat → Int32) (y : Nat) (l l' : List Nat) : Prop := ∃ a x b, l = a ++ b ∧ l' = a ++ x :: b ∧ x < 6 ∧ WOK K y 0 x a.length (l.length + 1) (l.count x + 1)
def PI (K : Nat → Int32) (y : Nat) (l l' : List Nat) : Prop := ∃ a x b, l = a ++ x :: b ∧ l' = a ++ b ∧ (WOK K y 1 x a.length (l.length - 1) (l.count x - 1) ∨ ((∃ b', b = x :: b') ∧ WOK K y 3 x a.length (l.length - 1) (l.count x - 1)))
def PS (K : Nat → Int32) (y : Nat) (l l' : List Nat) : Prop := ∃ a u x b, l = a ++ u :: x :: b ∧ l' = a ++ x :: u :: b ∧ WOK K y 2 x a.length l.length (l.count x) ∧ x ≠ u
def PT (K : Nat → Int32) (y : Nat) (l l' : List Nat) : Prop := ∃ a x u b, l = a ++ u :: b ∧ l' = a ++ x :: b ∧ x < 6 ∧ sdK K x = some u ∧ WOK K y 4 x a.length l.length (l.count x + 1)
theorem adjK_P {K : Nat → Int32} (hk : KTH K) {y : Nat} {l l' : List Nat} (hl : DL l) (hl' : DL l') : adjK K y (rank l') (rank l) ↔ PO K y l l' ∨ PI K y l l' ∨ PS K y l l' ∨ PT K y l l' := by
  rw [adjK_l hk hl hl']
  constructor
  · rintro ⟨s, p, t, th, h1, h2, h3, h4, h5⟩
    match s, h1 with
    | 0, _ =>
      simp only [chg] at h4
      by_cases w : p < l'.length
      · rw [if_pos w] at h4
        obtain ⟨a, x, b, e1, e2, e3⟩ := cut_at w
        have h6 := Option.some.inj h4
        have e4 : l = a ++ b := by
          have := congrArg Prod.fst h6
          simp only at this
          rw [← this, e1, ← e2, era_app]
        have e5 : th = x := by
          have := congrArg Prod.snd h6
          simp only at this
          rw [← this, e1, ← e2, get_app]
        subst e5
        refine Or.inl ⟨a, th, b, e4, e1, hl'.2 th (by rw [e1]; simp), ?_⟩
        rw [e1, ← e2] at h5
        rw [e4]
        have e6 : (a ++ th :: b).length = (a ++ b).length + 1 := by simp <;> omega
        have e7 : (a ++ th :: b).count th = (a ++ b).count th + 1 := by simp [List.count_append] <;> omega
        rw [e6, e7] at h5
        exact h5
      · rw [if_neg w] at h4
        cases h4
    | 1, _ =>
      simp only [chg] at h4
      by_cases w : p ≤ l'.length ∧ l'.length < 5
      · rw [if_pos w] at h4
        obtain ⟨a, b, e1, e2, e3⟩ := cut_in w.1
        have h6 := Option.some.inj h4
        have e4 : l = a ++ t :: b := by
          have := congrArg Prod.fst h6
          simp only at this
          rw [← this, e1, ← e2, ins_app]
        have e5 : th = t := by
          have := congrArg Prod.snd h6
          simp only at this
          exact this.symm
        subst e5
        refine Or.inr (Or.inl ⟨a, th, b, e4, e1, Or.inl ?_⟩)
        rw [e1, ← e2] at h5
        rw [e4]
        have e6 : (a ++ th :: b).length - 1 = (a ++ b).length := by simp <;> omega
        have e7 : (a ++ th :: b).count th - 1 = (a ++ b).count th := by simp [List.count_append] <;> omega
        rw [e6, e7]
        exact h5
      · rw [if_neg w] at h4
        cases h4
    | 2, _ =>
      simp only [chg] at h4
      by_cases w : p + 1 < l'.length ∧ l'.getD p 0 ≠ l'.getD (p + 1) 0
      · rw [if_pos w] at h4
        obtain ⟨a, x, b', e1, e2, e3⟩ := cut_at (show p < l'.length by omega)
        cases b' with
        | nil =>
          simp only [List.length_nil] at e3
          omega
        | cons u b =>
          have h6 := Option.some.inj h4
          have e0 : l'.getD p 0 = x := by rw [e1, ← e2, get_app]
          have e00 : l'.getD (p + 1) 0 = u := by
            have : l' = (a ++ [x]) ++ u :: b := by rw [e1]; simp
            rw [this, show p + 1 = (a ++ [x]).length by simp [e2], get_app]
          have e4 : l = a ++ u :: x :: b := by
            have := congrArg Prod.fst h6
            simp only at this
            rw [← this, e0, e00]
            have s1 : l'.set p u = a ++ u :: u :: b := by rw [e1, ← e2, sett_app]
            have s2 : a ++ u :: u :: b = (a ++ [u]) ++ u :: b := by simp
            rw [s1, s2, show p + 1 = (a ++ [u]).length by simp [e2], sett_app]
            simp
          have e5 : th = x := by
            have := congrArg Prod.snd h6
            simp only at this
            rw [← this, e0]
          subst e5
          rw [e0, e00] at w
          refine Or.inr (Or.inr (Or.inl ⟨a, u, th, b, e4, e1, ?_, w.2⟩))
          rw [e1, ← e2] at h5
          rw [e4]
          have e6 : (a ++ u :: th :: b).length = (a ++ th :: u :: b).length := by simp
          have e7 : (a ++ u :: th :: b).count th = (a ++ th :: u :: b).count th := by simp [List.count_append, List.count_cons]; omega
          rw [e6, e7]
          exact h5
      · rw [if_neg w] at h4
        cases h4
    | 3, _ =>
      simp only [chg] at h4
      by_cases w : p < l'.length ∧ l'.length < 5
      · rw [if_pos w] at h4
        obtain ⟨a, x, b, e1, e2, e3⟩ := cut_at w.1
        have h6 := Option.some.inj h4
        have e0 : l'.getD p 0 = x := by rw [e1, ← e2, get_app]
        have e4 : l = a ++ x :: x :: b := by
          have := congrArg Prod.fst h6
          simp only at this
          rw [← this, e0, e1, ← e2, ins_app]
        have e5 : th = x := by
          have := congrArg Prod.snd h6
          simp only at this
          rw [← this, e0]
        subst e5
        refine Or.inr (Or.inl ⟨a, th, th :: b, e4, e1, Or.inr ⟨⟨b, rfl⟩, ?_⟩⟩)
        rw [e1, ← e2] at h5
        rw [e4]
        have e6 : (a ++ th :: th :: b).length - 1 = (a ++ th :: b).length := by simp
        have e7 : (a ++ th :: th :: b).count th - 1 = (a ++ th :: b).count th := by simp [List.count_append] <;> omega
        rw [e6, e7]
        exact h5
      · rw [if_neg w] at h4
        cases h4
    | 4, _ =>
      simp only [chg] at h4
      by_cases w : p < l'.length
      · rw [if_pos w] at h4
        obtain ⟨a, x, b, e1, e2, e3⟩ := cut_at w
        have e0 : l'.getD p 0 = x := by rw [e1, ← e2, get_app]
        rw [e0] at h4
        cases hs : sdK K x with
        | none =>
          rw [hs] at h4
          cases h4
        | some u =>
          rw [hs] at h4
          have h6 := Option.some.inj h4
          have e4 : l = a ++ u :: b := by
            have := congrArg Prod.fst h6
            simp only at this
            rw [← this, e1, ← e2, sett_app]
          have e5 : th = x := (congrArg Prod.snd h6).symm
          subst e5
          have hx : th < 6 := hl'.2 th (by rw [e1]; simp)
          have hu := ((sdK_v hk hx).2 u hs).2
          refine Or.inr (Or.inr (Or.inr ⟨a, th, u, b, e4, e1, hx, hs, ?_⟩))
          rw [e1, ← e2] at h5
          rw [e4]
          have e6 : (a ++ th :: b).length = (a ++ u :: b).length := by simp
          have e7 : (a ++ th :: b).count th = (a ++ u :: b).count th + 1 := by
            rw [List.count_append, List.count_append, List.count_cons_self, List.count_cons_of_ne hu]
            omega
          rw [e6, e7] at h5
          exact h5
      · rw [if_neg w] at h4
        cases h4
  · rintro (⟨a, x, b, e1, e2, hx, h5⟩ | ⟨a, x, b, e1, e2, h5⟩ | ⟨a, u, x, b, e1, e2, h5, hne⟩ | ⟨a, x, u, b, e1, e2, hx, hs, h5⟩)
    · refine ⟨0, a.length, 0, x, by omega, by rw [e2]; simp, thn_pos 0, ?_, ?_⟩
      · simp only [chg]
        rw [if_pos (by rw [e2]; simp), e2, era_app, get_app, e1]
      · have e6 : l'.length = l.length + 1 := by rw [e1, e2]; simp <;> omega
        have e7 : l'.count x = l.count x + 1 := by rw [e1, e2]; simp [List.count_append] <;> omega
        rw [e6, e7]
        exact h5
    · have e6 : l'.length = l.length - 1 := by rw [e1, e2]; simp <;> omega
      have e7 : l'.count x = l.count x - 1 := by rw [e1, e2]; simp [List.count_append] <;> omega
      have h5' := hl.1
      have hlp : 0 < l.length := by rw [e1]; simp <;> omega
      rcases h5 with h5 | ⟨⟨b', rfl⟩, h5⟩
      · refine ⟨1, a.length, x, x, by omega, by rw [e2]; simp, ?_, ?_, by rw [e6, e7]; exact h5⟩
        · show x < 6
          exact hl.2 x (by rw [e1]; simp)
        · simp only [chg]
          rw [if_pos ⟨by rw [e2]; simp, by omega⟩, e2, ins_app, e1]
      · refine ⟨3, a.length, 0, x, by omega, by rw [e2]; simp, thn_pos 3, ?_, by rw [e6, e7]; exact h5⟩
        simp only [chg]
        rw [if_pos ⟨by rw [e2]; simp, by omega⟩, e2, get_app, ins_app, e1]
    · have e6 : l'.length = l.length := by rw [e1, e2]; simp
      have e7 : l'.count x = l.count x := by rw [e1, e2]; simp [List.count_append, List.count_cons]; omega
      have e0 : l'.getD a.length 0 = x := by rw [e2, get_app]
      have e00 : l'.getD (a.length + 1) 0 = u := by
        have : l' = (a ++ [x]) ++ u :: b := by rw [e2]; simp
        rw [this, show a.length + 1 = (a ++ [x]).length by simp, get_app]
      refine ⟨2, a.length, 0, x, by omega, by rw [e2]; simp, thn_pos 2, ?_, by rw [e6, e7]; exact h5⟩
      simp only [chg]
      rw [e0, e00, if_pos ⟨by rw [e2]; simp, hne⟩]
      have s1 : l'.set a.length u = a ++ u :: u :: b := by rw [e2, sett_app]
      have s2 : a ++ u :: u :: b = (a ++ [u]) ++ u :: b := by simp
      rw [s1, s2, show a.length + 1 = (a ++ [u]).length by simp, sett_app, e1]
      simp
    · have hu := ((sdK_v hk hx).2 u hs).2
      have e6 : l'.length = l.length := by rw [e1, e2]; simp
      have e7 : l'.count x = l.count x + 1 := by
        rw [e1, e2, List.count_append, List.count_append, List.count_cons_self, List.count_cons_of_ne hu]
        omega
      refine ⟨4, a.length, 0, x, by omega, by rw [e2]; simp, thn_pos 4, ?_, by rw [e6, e7]; exact h5⟩
      simp only [chg]
      rw [if_pos (by rw [e2]; simp), e2, get_app, hs, Option.map_some, sett_app, e1]
/-- no change leaves a DISH as it is -/
theorem adjK_ne {K : Nat → Int32} (hk : KTH K) {y p q : Nat} (h : adjK K y p q) : p ≠ q := by
  obtain ⟨hp, c, hc, e⟩ := id h
  obtain ⟨d1, d2⟩ := dR_v hp
  have hd := (EDG_DL hk d1 hc).1
  rw [← e, ← d2] at h
  rintro rfl
  have ee : dR p = c.1 := (rank_eq d1 hd).mp (by rw [d2, e])
  rcases (adjK_P hk hd d1).mp h with ⟨a, x, b, e1, e2, _⟩ | ⟨a, x, b, e1, e2, _⟩ | ⟨a, u, x, b, e1, e2, _, hne⟩ | ⟨a, x, u, b, e1, e2, hx, hs, _⟩
  · rw [e2, e1] at ee
    have := congrArg List.length ee
    simp at this
  · rw [e2, e1] at ee
    have := congrArg List.length ee
    simp at this
  · rw [e2, e1] at ee
    have := List.append_cancel_left ee
    cases this
    exact hne rfl
  · rw [e2, e1] at ee
    have := List.append_cancel_left ee
    cases this
    exact ((sdK_v hk hx).2 _ hs).2 rfl
