/-! poor ones on both sides -/
theorem any_succ (f : Nat → Bool) (k : Nat) : (List.range (k + 1)).any f = ((List.range k).any f || f k) := by
  rw [List.range_succ, List.any_append]
  simp
theorem all_succ (f : Nat → Bool) (k : Nat) : (List.range (k + 1)).all f = ((List.range k).all f && f k) := by
  rw [List.range_succ, List.all_append]
  simp
def b1 (b : Bool) : Int32 := if b then 1 else 0
theorem b1_bl (b : Bool) : bl (b1 b) := by cases b <;> rfl
theorem b1_0 (b : Bool) : b1 b = 0 ↔ b = false := by cases b <;> decide
theorem b1_t : b1 true = 1 := rfl
theorem b1_f : b1 false = 0 := rfl
section
variable (n : Nat) (yr : Nat → Nat) (di : Nat → List Nat)
def hasY (y k : Nat) : Bool := (List.range k).any (fun h => yr h == y)
def hasT (t k : Nat) : Bool := (List.range k).any (fun h => decide (0 < (di h).count t))
def lateT (y t k : Nat) : Bool := (List.range k).any (fun h => decide (0 < (di h).count t ∧ y ≤ yr h))
def pooR (y t : Nat) : Bool := !lateT yr di y t n && hasT di t n
def PF (y t : Nat) : List Nat := ((List.range t).filter (fun u => pooR n yr di y u)).map (fun u => 6 * y + u)
def PY (y : Nat) : List Nat := if hasY yr y n then PF n yr di y 6 else []
def PLs (y : Nat) : List Nat := (List.range y).flatMap (PY n yr di)
end
section
variable {M : Mem} {n : Nat} {mo : Nat → Option Nat} {yr : Nat → Nat} {di : Nat → List Nat}
theorem PF_succ (y t : Nat) : PF n yr di y (t + 1) = PF n yr di y t ++ (if pooR n yr di y t then [6 * y + t] else []) := by
  unfold PF
  rw [List.range_succ, List.filter_append, List.map_append]
  congr 1
  by_cases h : pooR n yr di y t <;> simp [h]
theorem PLs_succ (y : Nat) : PLs n yr di (y + 1) = PLs n yr di y ++ PY n yr di y := by
  unfold PLs
  rw [List.range_succ, List.flatMap_append]
  simp
theorem PF_len (y t : Nat) : (PF n yr di y t).length ≤ t := by
  unfold PF
  rw [List.length_map]
  exact Nat.le_trans (List.length_filter_le _ _) (by simp)
theorem PY_len (y : Nat) : (PY n yr di y).length ≤ 6 := by
  unfold PY
  split
  · exact PF_len y 6
  · simp
theorem PLs_len : ∀ y, (PLs n yr di y).length ≤ 6 * y
  | 0 => by simp [PLs]
  | y + 1 => by
    have h1 := PLs_len y
    have h2 := PY_len (n := n) (yr := yr) (di := di) y
    rw [PLs_succ, List.length_append]
    omega
theorem hasY_iff {y : Nat} : hasY yr y n = true ↔ ∃ h, h < n ∧ yr h = y := by
  unfold hasY
  rw [List.any_eq_true]
  constructor
  · rintro ⟨h, a, b⟩
    exact ⟨h, List.mem_range.mp a, by simpa using b⟩
  · rintro ⟨h, a, b⟩
    exact ⟨h, List.mem_range.mpr a, by simpa using b⟩
theorem PLs_skip {a : Nat} : ∀ b, a ≤ b → (∀ h, h < n → ¬ (a ≤ yr h ∧ yr h < b)) → PLs n yr di b = PLs n yr di a := by
  intro b hab
  induction b with
  | zero => intro _; rw [show a = 0 by omega]
  | succ b ih =>
    intro hn
    rcases Nat.lt_or_ge b a with q | q
    · rw [show a = b + 1 by omega]
    · rw [PLs_succ, ih q (fun h hh w => hn h hh ⟨w.1, by omega⟩)]
      have e : hasY yr b n = false := by
        rw [← Bool.not_eq_true]
        intro w
        obtain ⟨h, h1, h2⟩ := hasY_iff.mp w
        exact hn h h1 (by omega)
      rw [PY, e]
      simp
theorem c_isPoor (hC : LayC M) (hv : HSV M n mo yr di) {y t : Nat} (hy : y ≤ 999) (ht : t < 6) : f_X10_isPoor M 1 (nI y) (nI t) = some (b1 (pooR n yr di y t)) := by
  have hC0 := hC
  have hv0 := hv
  obtain ⟨hn, h56, h8, hf⟩ := hv
  apply TT.is
  unfold f_X10_isPoor
  unfold LayC at hC
  rw [TT_bind]
  simp only [hC, grd_T, Option.bind_some]
  refine TT_for n (fun k s => s = (b1 (hasT di t k), nI k) ∧ lateT yr di y t k = false) ?_ (Nat.zero_le n) ⟨rfl, rfl⟩
  rintro k _ hk ⟨rfl, hl⟩
  simp only [h8]
  rw [TT_if, nleI (by omega) (by omega)]
  refine ⟨fun q => ?_, fun q => ?_⟩
  · obtain rfl : k = n := by omega
    rw [TT_some]
    show TT (grd _ _) _
    rw [TT_grd, TT_some]
    exact ⟨b1_bl _, by rw [pooR, hl]; simp⟩
  · obtain ⟨-, h999, hd, -, -, -, e5, e6, e7, -⟩ := hf k (by omega)
    have hc : (di k).count t ≤ 5 := Nat.le_trans List.count_le_length hd.1
    have s1 : hasT di t (k + 1) = (hasT di t k || decide (0 < (di k).count t)) := any_succ _ k
    have s2 : lateT yr di y t (k + 1) = (lateT yr di y t k || decide (0 < (di k).count t ∧ y ≤ yr k)) := any_succ _ k
    rw [c_holds hC0 hv0 (by omega) ht, Option.bind_some, TT_bv, grd_y ((nvp (by omega)).mpr (by omega)), nclampI (by omega), e6, show (0 : Int32) = nI 0 from rfl, TT_if, nleI (by omega) (by omega)]
    refine ⟨fun w => ?_, fun w => ?_⟩
    · simp only [bv]
      rw [TT_some]
      refine ⟨by omega, ?_, ?_⟩
      · rw [s1, decide_eq_false (by omega), Bool.or_false, nsucc]
      · rw [s2, hl, decide_eq_false (by omega)]
        rfl
    · rw [TT_if, nltI (by omega) (by omega)]
      refine ⟨fun w2 => ?_, fun w2 => ?_⟩
      · simp only [bv]
        rw [TT_some]
        refine ⟨by omega, ?_, ?_⟩
        · rw [s1, decide_eq_true (by omega), Bool.or_true, nsucc]
          rfl
        · rw [s2, hl, decide_eq_false (by omega)]
          rfl
      · rw [TT_some]
        show TT (some _) _
        rw [TT_some]
        have e : lateT yr di y t n = true := by
          unfold lateT
          rw [List.any_eq_true]
          exact ⟨k, List.mem_range.mpr (by omega), decide_eq_true (by omega)⟩
        rw [pooR, e]
        rfl
theorem r_isPoor (hM : LayM M) (hv : HSV M n mo yr di) {y t : Nat} (hy : y ≤ 999) (ht : t < 6) : f_X12_isPoor M 47 (nI y) (nI t) = some (b1 (pooR n yr di y t)) := by
  have hM0 := hM
  have hv0 := hv
  obtain ⟨hn, h56, h8, hf⟩ := hv
  apply TT.is
  unfold f_X12_isPoor
  unfold LayM at hM
  rw [TT_bind]
  simp only [hM, grd_T, Option.bind_some]
  refine TT_for n (fun k s => s = (b1 (hasT di t k), nI k) ∧ lateT yr di y t k = false) ?_ (Nat.zero_le n) ⟨rfl, rfl⟩
  rintro k _ hk ⟨rfl, hl⟩
  rw [show (56 : Int32) = nI 56 from rfl, grd_y ((nvp (by omega)).mpr (by omega)), nclampI (by omega), h56, TT_if, nleI (by omega) (by omega)]
  refine ⟨fun q => ?_, fun q => ?_⟩
  · obtain rfl : k = n := by omega
    rw [TT_some]
    show TT (grd _ _) _
    rw [TT_grd, TT_some]
    exact ⟨b1_bl _, by rw [pooR, hl]; simp⟩
  · obtain ⟨-, h999, hd, -⟩ := hf k (by omega)
    have hc : (di k).count t ≤ 5 := Nat.le_trans List.count_le_length hd.1
    have s1 : hasT di t (k + 1) = (hasT di t k || decide (0 < (di k).count t)) := any_succ _ k
    have s2 : lateT yr di y t (k + 1) = (lateT yr di y t k || decide (0 < (di k).count t ∧ y ≤ yr k)) := any_succ _ k
    simp only
    rw [r_di hM0 hv0 (by omega), Option.bind_some, p_has' hd ht, Option.bind_some, r_yr hM0 hv0 (by omega)]
    simp only [bv, Option.bind_some, nsucc, if_true]
    rw [show (0 : Int32) = nI 0 from rfl, TT_if, nleI (by omega) (by omega)]
    refine ⟨fun w => ?_, fun w => ?_⟩
    · rw [s1, s2, decide_eq_false (by omega), decide_eq_false (by omega), hl, Bool.or_false]
      cases hasT di t k with
      | false =>
        rw [if_pos (show b1 false = nI 0 from rfl), TT_some]
        exact ⟨by omega, rfl, rfl⟩
      | true =>
        rw [if_neg (by decide), TT_some]
        exact ⟨by omega, rfl, rfl⟩
    · rw [if_neg (by decide), TT_if, nltI (by omega) (by omega)]
      refine ⟨fun w2 => ?_, fun w2 => ?_⟩
      · rw [s1, s2, decide_eq_true (by omega), decide_eq_false (by omega), hl, Bool.or_true]
        rw [if_neg (show ¬ (1 : Int32) = nI 0 by decide), ite_self, TT_some]
        exact ⟨by omega, rfl, rfl⟩
      · rw [TT_some]
        show TT (some _) _
        rw [TT_some]
        have e : lateT yr di y t n = true := by
          unfold lateT
          rw [List.any_eq_true]
          exact ⟨k, List.mem_range.mpr (by omega), decide_eq_true (by omega)⟩
        rw [pooR, e]
        rfl
/-- the next year of a HOUSE from lo on -/
def NXY (n : Nat) (yr : Nat → Nat) (lo k : Nat) (a : Option Nat) : Prop := match a with
  | none => ∀ h, h < k → yr h < lo
  | some y => lo ≤ y ∧ (∃ h, h < n ∧ yr h = y) ∧ ∀ h, h < k → lo ≤ yr h → y ≤ yr h
theorem c_yearBehind (hC : LayC M) (hv : HSV M n mo yr di) {lo : Nat} {p : Int32} (hp : ∀ y, y ≤ 999 → (nI y ≤ p ↔ y < lo)) : TT (f_X10_yearBehind M 1 p) (fun x => ∃ a, x = oI a ∧ NXY n yr lo n a) := by
  obtain ⟨hn, h56, h8, hf⟩ := hv
  unfold f_X10_yearBehind
  unfold LayC at hC
  rw [TT_bind]
  simp only [hC, grd_T, Option.bind_some, TT_some]
  refine TT_for n (fun k s => ∃ a, s = (oI a, nI k) ∧ NXY n yr lo k a) ?_ (Nat.zero_le n) ⟨none, rfl, fun h hh => absurd hh (by omega)⟩
  rintro k _ hk ⟨a, rfl, ha⟩
  simp only [h8]
  rw [TT_if, nleI (by omega) (by omega)]
  refine ⟨fun q => ?_, fun q => ?_⟩
  · obtain rfl : k = n := by omega
    rw [TT_some]
    exact ⟨a, rfl, ha⟩
  · obtain ⟨-, h999, hd, -, -, -, e5, e6, e7, -⟩ := hf k (by omega)
    rw [grd_y ((nvp (by omega)).mpr (by omega)), nclampI (by omega), e6, TT_bv, TT_if, hp _ h999]
    have up : ∀ h, h < k + 1 → h < k ∨ h = k := fun h hh => by omega
    have g12 : ∀ {t : Option ((Int32 × Int32) ⊕ Int32)}, grd (vp_in (nI k) 12) t = t := grd_y ((nvp (by omega)).mpr (by omega))
    refine ⟨fun w => ?_, fun w => ?_⟩
    · simp only [bv, nsucc]
      rw [TT_some]
      refine ⟨by omega, a, rfl, ?_⟩
      cases a with
      | none =>
        intro h hh
        rcases up h hh with g | g
        · exact ha h g
        · subst g; exact w
      | some y =>
        refine ⟨ha.1, ha.2.1, fun h hh => ?_⟩
        rcases up h hh with g | g
        · exact ha.2.2 h g
        · subst g; omega
    · simp only [bv, nsucc, g12]
      cases a with
      | none =>
        rw [oI_none, if_pos rfl, TT_some]
        refine ⟨by omega, some (yr k), rfl, by omega, ⟨k, by omega, rfl⟩, fun h hh hlo => ?_⟩
        rcases up h hh with g | g
        · have := ha h g
          omega
        · subst g; omega
      | some y =>
        obtain ⟨a1, ⟨g0, a2, a3⟩, a4⟩ := ha
        have h9 : y ≤ 999 := by
          have := (hf g0 a2).2.1
          omega
        rw [oI_some, if_neg (nne_m1 (by omega)), TT_if, nleI (by omega) (by omega)]
        refine ⟨fun w2 => ?_, fun w2 => ?_⟩
        · rw [TT_some]
          refine ⟨by omega, some y, rfl, a1, ⟨g0, a2, a3⟩, fun h hh hlo => ?_⟩
          rcases up h hh with g | g
          · exact a4 h g hlo
          · subst g; omega
        · rw [TT_some]
          refine ⟨by omega, some (yr k), rfl, by omega, ⟨k, by omega, rfl⟩, fun h hh hlo => ?_⟩
          rcases up h hh with g | g
          · have := a4 h g hlo
            omega
          · subst g; omega
end
