/-! LINES: ways up to the first MOTHER -/
def pth (m : Nat → Option Nat) (d : Nat) : Nat → Nat → Option Nat
  | 0, k => some k
  | s + 1, k => if k < d then (match m k with
    | none => none
    | some i => pth m d s i) else some k
def trm (m : Nat → Option Nat) (d s k : Nat) : Prop := ∀ q, pth m d s k = some q → d ≤ q
theorem pth_ge {m : Nat → Option Nat} {d k : Nat} (h : d ≤ k) : ∀ s, pth m d s k = some k
  | 0 => rfl
  | s + 1 => by rw [pth, if_neg (by omega)]
theorem pth_add {m : Nat → Option Nat} {d : Nat} (t : Nat) : ∀ s k, pth m d (s + t) k = (pth m d s k).bind (pth m d t)
  | 0, k => by rw [Nat.zero_add]; rfl
  | s + 1, k => by
    rw [show s + 1 + t = (s + t) + 1 from by omega, pth, pth]
    by_cases w : k < d
    · rw [if_pos w, if_pos w]
      cases m k with
      | none => rfl
      | some i => exact pth_add t s i
    · rw [if_neg w, if_neg w]
      show some k = pth m d t k
      rw [pth_ge (by omega)]
theorem pth_st {m : Nat → Option Nat} {d s k : Nat} (h : trm m d s k) (t : Nat) : pth m d (s + t) k = pth m d s k := by
  rw [pth_add]
  cases hq : pth m d s k with
  | none => rfl
  | some q => exact pth_ge (h q hq) t
theorem trm_up {m : Nat → Option Nat} {d s k : Nat} (h : trm m d s k) {t : Nat} (ht : s ≤ t) : trm m d t k ∧ pth m d t k = pth m d s k := by
  have e := pth_st h (t - s)
  rw [show s + (t - s) = t from by omega] at e
  refine ⟨fun q hq => h q (by rw [← e]; exact hq), e⟩
theorem trm_least {m : Nat → Option Nat} {d k : Nat} : ∀ s, trm m d s k → ∃ s', s' ≤ s ∧ trm m d s' k ∧ ∀ t, t < s' → ¬ trm m d t k := by
  intro s
  induction s using Nat.strongRecOn with
  | ind s ih =>
    intro h
    by_cases w : ∃ t, t < s ∧ trm m d t k
    · obtain ⟨t, h1, h2⟩ := w
      obtain ⟨s', g1, g2, g3⟩ := ih t h1 h2
      exact ⟨s', by omega, g2, g3⟩
    · exact ⟨s, Nat.le_refl _, h, fun t ht q => w ⟨t, ht, q⟩⟩
/-- a way up that ends, ends soon -/
theorem trm_le {m : Nat → Option Nat} {d k s : Nat} (h : trm m d s k) : trm m d d k := by
  obtain ⟨s', h1, h2, h3⟩ := trm_least s h
  have hv : ∀ j, j < s' → ∃ v, pth m d j k = some v ∧ v < d := fun j hj => by
    refine Classical.byContradiction (fun w => h3 j hj (fun q hq => ?_))
    exact Nat.le_of_not_lt (fun z => w ⟨q, hq, z⟩)
  have hnd : ((List.range s').map (fun j => (pth m d j k).getD d)).Nodup := by
    rw [List.Nodup, List.pairwise_map, List.pairwise_iff_getElem]
    intro i j hi hj hij
    rw [List.length_range] at hi hj
    rw [List.getElem_range, List.getElem_range]
    intro e
    obtain ⟨v, v1, v2⟩ := hv i hi
    obtain ⟨u, u1, u2⟩ := hv j hj
    rw [v1, u1] at e
    have e : v = u := e
    subst e
    refine h3 (i + (s' - j)) (by omega) (fun q hq => ?_)
    rw [pth_add, v1] at hq
    refine h2 q ?_
    rw [show s' = j + (s' - j) from by omega, pth_add, u1]
    exact hq
  have hle := nodup_le d _ (fun p hp => by
    obtain ⟨j, hj, e⟩ := List.mem_map.mp hp
    rw [List.mem_range] at hj
    obtain ⟨v, v1, v2⟩ := hv j hj
    rw [v1] at e
    have e : v = p := e
    omega) hnd
  rw [List.length_map, List.length_range] at hle
  exact (trm_up h2 hle).1
/-- no one comes of herself -/
def AC (m : Nat → Option Nat) (d : Nat) : Prop := ∀ k, k < d → ∃ s, trm m d s k
theorem AC.at {m : Nat → Option Nat} {d : Nat} (h : AC m d) (k : Nat) : trm m d d k := by
  by_cases w : k < d
  · obtain ⟨s, hs⟩ := h k w
    exact trm_le hs
  · intro q hq
    rw [pth_ge (by omega)] at hq
    cases hq
    omega
theorem pth_n {m : Nat → Option Nat} {d e : Nat} (hde : d ≤ e) : ∀ s k, pth m d s k = none → pth m e s k = none
  | 0, k, h => by cases h
  | s + 1, k, h => by
    rw [pth] at h
    by_cases w : k < d
    · rw [if_pos w] at h
      rw [pth, if_pos (by omega)]
      cases hm : m k with
      | none => rfl
      | some i =>
        rw [hm] at h
        exact pth_n hde s i h
    · rw [if_neg w] at h
      cases h
theorem pth_s {m : Nat → Option Nat} {d e : Nat} (hde : d ≤ e) : ∀ s k q, pth m d s k = some q → ∃ s', pth m e s' k = some q
  | 0, k, q, h => ⟨0, h⟩
  | s + 1, k, q, h => by
    rw [pth] at h
    by_cases w : k < d
    · rw [if_pos w] at h
      cases hm : m k with
      | none =>
        rw [hm] at h
        cases h
      | some i =>
        rw [hm] at h
        obtain ⟨s', g⟩ := pth_s hde s i q h
        refine ⟨s' + 1, ?_⟩
        rw [pth, if_pos (by omega), hm]
        exact g
    · rw [if_neg w] at h
      exact ⟨0, h⟩
/-- one more MOTHER is told -/
theorem AC.snoc {m : Nat → Option Nat} {d : Nat} (h : AC m d) (hm : ∀ i, m d = some i → pth m d d i ≠ some d) : AC m (d + 1) := by
  -- what ends below d ends below d + 1
  have key : ∀ k, pth m d d k ≠ some d → ∃ s, trm m (d + 1) s k := fun k hk => by
    have ht := h.at k
    cases hp : pth m d d k with
    | none =>
      refine ⟨d, fun q hq => ?_⟩
      rw [pth_n (Nat.le_succ d) d k hp] at hq
      cases hq
    | some q =>
      have hq := ht q hp
      obtain ⟨s', g⟩ := pth_s (Nat.le_succ d) d k q hp
      refine ⟨s', fun q' hq' => ?_⟩
      rw [g] at hq'
      cases hq'
      have : q ≠ d := fun z => hk (by rw [hp, z])
      omega
  intro k hk
  by_cases w : pth m d d k = some d
  · obtain ⟨s', g⟩ := pth_s (Nat.le_succ d) d k d w
    cases hmd : m d with
    | none =>
      refine ⟨s' + 1, fun q hq => ?_⟩
      rw [pth_add, g] at hq
      have : pth m (d + 1) 1 d = none := by
        rw [pth, if_pos (by omega), hmd]
      have hq : pth m (d + 1) 1 d = some q := hq
      rw [this] at hq
      cases hq
    | some i =>
      obtain ⟨s2, g2⟩ := key i (hm i hmd)
      refine ⟨s' + (s2 + 1), fun q hq => ?_⟩
      rw [pth_add, g] at hq
      have hq : pth m (d + 1) (s2 + 1) d = some q := hq
      rw [pth, if_pos (by omega), hmd] at hq
      exact g2 q hq
  · exact key k w
/-- who comes of herself has no first MOTHER -/
theorem AC.no {m : Nat → Option Nat} {d n i s : Nat} (hdn : d < n) (hm : m d = some i) (hp : pth m d s i = some d) : ¬ AC m n := by
  intro h
  obtain ⟨s', g⟩ := pth_s (Nat.le_of_lt hdn) s i d hp
  have hc : pth m n (s' + 1) d = some d := by
    rw [pth, if_pos hdn, hm]
    exact g
  have hj : ∀ j, pth m n (j * (s' + 1)) d = some d := by
    intro j
    induction j with
    | zero => rw [Nat.zero_mul]; rfl
    | succ j ih =>
      rw [Nat.succ_mul, pth_add, ih]
      exact hc
  have ht := h.at d
  have := (trm_up ht (t := n * (s' + 1)) (by rw [Nat.mul_add]; omega)).1 d (hj n)
  omega
theorem pth_cg {m m' : Nat → Option Nat} {d : Nat} (h : ∀ k, k < d → m k = m' k) : ∀ s k, pth m d s k = pth m' d s k
  | 0, k => rfl
  | s + 1, k => by
    rw [pth, pth]
    by_cases w : k < d
    · rw [if_pos w, if_pos w, h k w]
      cases m' k with
      | none => rfl
      | some i => exact pth_cg h s i
    · rw [if_neg w, if_neg w]
theorem AC.cg {m m' : Nat → Option Nat} {d : Nat} (h : ∀ k, k < d → m k = m' k) (ha : AC m d) : AC m' d := fun k hk => by
  obtain ⟨s, hs⟩ := ha k hk
  exact ⟨s, fun q hq => hs q (by rw [pth_cg h]; exact hq)⟩
/-- a LINE's tree -/
def TREE (m : Nat → Option Nat) (n : Nat) : Prop := (∃ r, r < n ∧ m r = none ∧ ∀ k, k < n → m k = none → k = r) ∧ AC m n
