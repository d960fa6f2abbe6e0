/-! MEMORY: all cells that the law makes, by their offsets from the heap's first free place -/
abbrev Mem : Type := (Nat × Nat) × (Nat → Nat) × (Nat → Nat) × (Nat → Nat → Int32) × (Nat → Nat → Int64) × (Nat → Nat → Option Nat)
/-- how many cells, slots; kind, length; ints, longs, references -/
def mn (M : Mem) : Nat := M.1.1
def mz (M : Mem) : Nat := M.1.2
def mK (M : Mem) : Nat → Nat := M.2.1
def mL (M : Mem) : Nat → Nat := M.2.2.1
def mI (M : Mem) : Nat → Nat → Int32 := M.2.2.2.1
def mJ (M : Mem) : Nat → Nat → Int64 := M.2.2.2.2.1
def mR (M : Mem) : Nat → Nat → Option Nat := M.2.2.2.2.2
/-- a whole row, one place -/
def rI (M : Mem) (a : Nat) (f : Nat → Int32) : Mem := (M.1, mK M, mL M, va_up (mI M) a f, mJ M, mR M)
def rJ (M : Mem) (a : Nat) (f : Nat → Int64) : Mem := (M.1, mK M, mL M, mI M, va_up (mJ M) a f, mR M)
def rR (M : Mem) (a : Nat) (f : Nat → Option Nat) : Mem := (M.1, mK M, mL M, mI M, mJ M, va_up (mR M) a f)
def wI (M : Mem) (a k : Nat) (v : Int32) : Mem := rI M a (upd (mI M a) k v)
def wJ (M : Mem) (a k : Nat) (v : Int64) : Mem := rJ M a (vp_updL (mJ M a) k v)
def wR (M : Mem) (a k : Nat) (v : Option Nat) : Mem := rR M a (va_up (mR M a) k v)
/-- a new object of n fields, a new array of n places -/
def nO (M : Mem) (c n : Nat) : Mem := ((mn M + 1, mz M + n), va_up (mK M) (mn M) c, mL M, va_up (mI M) (mn M) (fun _ => 0), mJ M, va_up (mR M) (mn M) (fun _ => none))
def nA (M : Mem) (c n : Nat) : Mem := ((mn M + 1, mz M + n), va_up (mK M) (mn M) c, va_up (mL M) (mn M) n, va_up (mI M) (mn M) (fun _ => 0), va_up (mJ M) (mn M) (fun _ => 0), va_up (mR M) (mn M) (fun _ => none))
def okO (M : Mem) (c a : Nat) : Prop := a < mn M ∧ mK M a = c
def okA (M : Mem) (c a : Nat) (i : Int32) : Prop := (a < mn M ∧ mK M a = c) ∧ vp_in i (mL M a)
/-- guards, cases, loops -/
noncomputable def grd {α : Type} (c : Prop) (k : Option α) : Option α := @ite _ c (Classical.propDecidable c) k none
theorem grd_t {α : Type} {c : Prop} {k : Option α} (h : c) : grd c k = k := if_pos h
theorem grd_some {α : Type} {c : Prop} {k : Option α} {x : α} : grd c k = some x ↔ c ∧ k = some x := by
  by_cases h : c
  · rw [grd_t h]; exact ⟨fun e => ⟨h, e⟩, fun e => e.2⟩
  · rw [show grd c k = none from if_neg h]
    constructor
    · intro e
      cases e
    · intro e
      exact absurd e.1 h
def ncase {α : Type} (r : Option Nat) (kn : Option α) (ks : Nat → Option α) : Option α := match r with
  | none => kn
  | some a => ks a
def bv {α β : Type} (v : α) (k : α → Option β) : Option β := k v
def itO {σ ρ : Type} (b : σ → Option (σ ⊕ ρ)) : Nat → σ → Option ρ
  | 0, _ => none
  | n + 1, s => match b s with
    | none => none
    | some (.inl s') => itO b n s'
    | some (.inr r) => some r
noncomputable def loopO {σ ρ : Type} (b : σ → Option (σ ⊕ ρ)) (s : σ) : Option ρ := @dite _ (∃ (r : ρ) (n : Nat), itO b n s = some r) (Classical.propDecidable _) (fun h => some (Classical.choose h)) (fun _ => none)
theorem itO_mono {σ ρ : Type} {b : σ → Option (σ ⊕ ρ)} {r : ρ} : ∀ (n : Nat) (s : σ), itO b n s = some r → itO b (n + 1) s = some r := by
  intro n
  induction n with
  | zero => intro s h; cases h
  | succ n ih =>
    intro s h
    rw [itO] at h ⊢
    cases hb : b s with
    | none => rw [hb] at h; cases h
    | some q =>
      rw [hb] at h
      cases q with
      | inl s' => exact ih s' h
      | inr x => exact h
theorem itO_le {σ ρ : Type} {b : σ → Option (σ ⊕ ρ)} {r : ρ} {n m : Nat} {s : σ} (hm : n ≤ m) (h : itO b n s = some r) : itO b m s = some r := by
  induction hm with
  | refl => exact h
  | step _ ih => exact itO_mono _ _ ih
theorem loopO_some {σ ρ : Type} {b : σ → Option (σ ⊕ ρ)} {s : σ} {r : ρ} : loopO b s = some r ↔ ∃ n, itO b n s = some r := by
  unfold loopO
  by_cases h : ∃ (r : ρ) (n : Nat), itO b n s = some r
  · rw [dif_pos h]
    obtain ⟨n, hn⟩ := Classical.choose_spec h
    constructor
    · intro e
      exact ⟨n, by rw [hn]; exact e⟩
    · rintro ⟨m, hm⟩
      have h1 := itO_le (Nat.le_max_left n m) hn
      have h2 := itO_le (Nat.le_max_right n m) hm
      exact h1.symm.trans h2
  · rw [dif_neg h]
    exact ⟨fun e => (by cases e), fun ⟨n, hn⟩ => absurd ⟨r, n, hn⟩ h⟩
/-- one turn of a loop -/
theorem loopO_eq {σ ρ : Type} (b : σ → Option (σ ⊕ ρ)) (s : σ) : loopO b s = match b s with
    | none => none
    | some (.inl s') => loopO b s'
    | some (.inr r) => some r := by
  apply Option.ext
  intro r
  show loopO b s = some r ↔ _ = some r
  rw [loopO_some]
  cases hb : b s with
  | none =>
    refine ⟨fun ⟨n, hn⟩ => ?_, fun e => by cases e⟩
    cases n with
    | zero => cases hn
    | succ n => rw [itO, hb] at hn; cases hn
  | some q =>
    cases q with
    | inl s' =>
      show _ ↔ loopO b s' = some r
      rw [loopO_some]
      refine ⟨fun ⟨n, hn⟩ => ?_, fun ⟨n, hn⟩ => ⟨n + 1, by rw [itO, hb]; exact hn⟩⟩
      cases n with
      | zero => cases hn
      | succ n => rw [itO, hb] at hn; exact ⟨n, hn⟩
    | inr x =>
      refine ⟨fun ⟨n, hn⟩ => ?_, fun e => ⟨1, by rw [itO, hb]; exact e⟩⟩
      cases n with
      | zero => cases hn
      | succ n => rw [itO, hb] at hn; exact hn
/-- switches -/
def swO {α : Type} (x : Int32) : List (Int32 × Option α) → Option α → Option α
  | [], d => d
  | q :: l, d => if x = q.1 then q.2 else swO x l d
/-! GHOSTS: classes and slots, array classes, the first free place, what stands outside -/
abbrev Gh : Type := va_G × (Nat → ClassId) × Nat × (Nat → Nat)
abbrev gD (G : Gh) : va_G := G.1
abbrev gy (G : Gh) : Nat → ClassId := G.2.1
abbrev gh (G : Gh) : Nat := G.2.2.1
abbrev ga (G : Gh) : Nat → Nat := G.2.2.2
abbrev tysOf (G : Gh) : List (ClassId × FieldType) := [(gy G 13, .byte), (gy G 14, .int), (gy G 15, .long), (gy G 16, .short), (gy G 17, .boolean), (gy G 18, .object RX2), (gy G 19, .object RX9), (gy G 20, .object RX10)]
/-- the fields of a class, in the order of the slots: 1 a reference -/
def fkd : Nat → List Nat
  | 0 => [1, 1, 1, 1, 1, 0, 0, 0, 0]
  | 1 => [1, 1, 1, 1, 1, 0, 0, 0]
  | 2 => [1, 1, 1, 1, 0, 0, 0, 0, 0, 0, 0]
  | 3 => [1, 1]
  | 4 => [1, 1, 1, 0, 1, 0, 0, 0, 0, 0]
  | 5 => [1, 1, 1, 1, 1, 1, 1, 0, 0, 0, 0, 0]
  | 6 => [1, 1, 0, 0]
  | 7 => [1, 1, 1, 1, 0, 0, 0, 0, 0, 0]
  | 8 => [1, 1, 1, 1, 0, 0, 0]
  | 9 => [1, 1, 0, 0, 0]
  | 10 => [1, 1, 1, 1, 1, 1, 1, 1, 0, 0, 0, 0, 0, 0, 0]
  | 11 => [1, 1, 1, 1, 1, 1, 1, 1, 1, 1, 1, 0, 0, 0, 0, 0]
  | 12 => [0, 0, 1, 1, 1, 1, 1, 0, 0, 1, 1, 0, 0, 1, 0, 1, 1, 0, 0, 1, 1, 1, 0, 0, 0, 0, 0, 0, 0, 0, 1, 1, 1, 1, 0, 1, 1, 1, 1, 1, 1, 1, 1, 1, 1, 1, 0, 0, 0, 0, 0, 0, 0, 0, 0, 1, 1, 0, 0]
  | _ => []
def cF (G : Gh) (M : Mem) (a t j : Nat) : Value := if t = 1 then va_rf ((mR M a j).map (gh G + ·)) else .int (mI M a j)
def cO (G : Gh) (M : Mem) (a : Nat) (l : List Nat) : List Value := l.mapIdx (fun j t => cF G M a t j)
def cA (G : Gh) (M : Mem) (a k : Nat) : vp_A := (mL M a, if k = 15 then .inr (.inl (mJ M a)) else if k < 18 then .inl (mI M a) else .inr (.inr (.inr (.inr (fun i => (mR M a i).map (gh G + ·))))))
def cE (G : Gh) (M : Mem) (a : Nat) : va_E := if mK M a < 13 then .inr (mK M a, cO G M a (fkd (mK M a))) else .inl (gy G (mK M a), cA G M a (mK M a))
/-- the heap is the memory -/
def HP (G : Gh) (M : Mem) (H : Heap) : Prop := H.size = gh G + mn M ∧ ∀ a, a < mn M → va_at (gD G) vwCl (gh G + a, cE G M a) H
theorem cO_at {G : Gh} {M : Mem} {a : Nat} {l : List Nat} {j t : Nat} (h : l[j]? = some t) : (cO G M a l)[j]? = some (cF G M a t j) := by
  unfold cO
  rw [List.getElem?_mapIdx, h]
  rfl
theorem cO_len {G : Gh} {M : Mem} {a : Nat} {l : List Nat} : (cO G M a l).length = l.length := by simp [cO]
theorem HP.obj {G : Gh} {M : Mem} {H : Heap} (h : HP G M H) {a c : Nat} (ho : okO M c a) (hc : c < 13) : va_P (gD G) vwCl [(gh G + a, .inr (c, cO G M a (fkd c)))] H := by
  obtain ⟨h1, rfl⟩ := ho
  intro k q hk
  have hz : k < 1 := (List.getElem?_eq_some_iff.mp hk).1
  rw [show k = 0 by omega] at hk
  cases hk
  have h2 := h.2 a h1
  unfold cE at h2
  rw [if_pos hc] at h2
  exact h2
theorem HP.arr {G : Gh} {M : Mem} {H : Heap} (h : HP G M H) {a c : Nat} (ho : okO M c a) (hc : ¬ c < 13) : va_P (gD G) vwCl [(gh G + a, .inl (gy G c, cA G M a c))] H := by
  obtain ⟨h1, rfl⟩ := ho
  intro k q hk
  have hz : k < 1 := (List.getElem?_eq_some_iff.mp hk).1
  rw [show k = 0 by omega] at hk
  cases hk
  have h2 := h.2 a h1
  unfold cE at h2
  rw [if_neg hc] at h2
  exact h2
/-- behind a change of one cell -/
theorem HP.set {G : Gh} {M M1 : Mem} {H H1 : Heap} {a : Nat} (h : HP G M H) (hn : mn M1 = mn M) (hz : H1.size = H.size) (ho : ∀ b, b ≠ a → cE G M1 b = cE G M b) (hq : ∀ q, q ≠ gh G + a → H1[q]? = H[q]?) (ha : va_at (gD G) vwCl (gh G + a, cE G M1 a) H1) : HP G M1 H1 := by
  refine ⟨by rw [hz, h.1, hn], fun b hb => ?_⟩
  by_cases hba : b = a
  · subst hba; exact ha
  · rw [ho b hba]
    exact (h.2 b (by rw [← hn]; exact hb)).kept (hq (gh G + b) (by omega))
/-- behind a new cell -/
theorem HP.push {G : Gh} {M M1 : Mem} {H H1 : Heap} (h : HP G M H) (hn : mn M1 = mn M + 1) (hz : H1.size = gh G + mn M + 1) (ho : ∀ b, b ≠ mn M → cE G M1 b = cE G M b) (hq : ∀ q, q < gh G + mn M → H1[q]? = H[q]?) (ha : va_at (gD G) vwCl (gh G + mn M, cE G M1 (mn M)) H1) : HP G M1 H1 := by
  refine ⟨by rw [hz, hn]; omega, fun b hb => ?_⟩
  by_cases hba : b = mn M
  · subst hba; exact ha
  · rw [ho b hba]
    have hl : b < mn M := by omega
    exact (h.2 b hl).kept (hq (gh G + b) (by omega))
