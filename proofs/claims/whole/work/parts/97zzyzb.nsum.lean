/-! ORDERS: the reference works its SUMs out -/
def Sns (a k : Nat) : Prop := Sgo a k ∨ (a = 47 ∧ k = 53) ∨ a = 76
theorem RE.frO {S : Nat → Nat → Prop} {M M1 : Mem} {T : Nat → Nat} {len : Nat} {B : Nat} {W : Nat → Int32} (h : RE M T len true B W) (hF : Fr S M M1) (hs : ∀ a k, S a k → a ≠ 49 ∧ a ≠ 62 ∧ ¬ (a = 47 ∧ (k = 27 ∨ k = 29))) : RE M1 T len true B W := by
  obtain ⟨h1, h2, h3, h4, h5, h6⟩ := h
  have e : ∀ a k, a = 49 ∨ a = 62 ∨ (a = 47 ∧ (k = 27 ∨ k = 29)) → mI M1 a k = mI M a k := fun a k q => hF.i (fun w => by have := hs a k w; omega)
  refine ⟨h1.fr hF, h2, by rw [e 47 27 (by omega)]; exact h3, fun j hj => ?_, by rw [e 47 29 (by omega)]; exact h5, ?_⟩
  · rw [e 49 _ (by omega), e 49 _ (by omega)]
    exact h4 j hj
  · obtain ⟨g1, n, g2, g3, g4⟩ := h6
    refine ⟨fun i hi => by rw [e 62 i (by omega)]; exact g1 i hi, n, g2, by rw [e 49 _ (by omega)]; exact g3, fun h hh => ?_⟩
    rw [e 49 _ (by omega)]
    exact g4 h hh
theorem pb_b1 (b : Bool) : pb (b1 b) := by
  cases b
  · constructor <;> decide
  · constructor <;> decide
theorem ly76 {M : Mem} (h : LayM M) : okO M 12 47 ∧ mR M 47 55 = some 76 ∧ okO M 15 76 ∧ mL M 76 = 3 ∧ mR M 47 31 = some 62 ∧ okO M 14 62 ∧ mL M 62 = 4 := by
  unfold LayM at h
  simp only [h, and_self]
theorem r_nextSum {M : Mem} {T : Nat → Nat} {len B k k2 : Nat} {W : Nat → Int32} {val : (Nat → Int32) → Option Int} (hE : RE M T len true B W) (hr : RSV (f_X12_sumOf 100) T len true k k2 val) (hg : mI M 47 26 = nI (B + k)) {s : Bool} (h53 : mI M 47 53 = b1 s) {j : Nat} (hj : j < 3) (live : Bool) : TT (f_X12_nextSum M 47 (nI j) (b1 live)) (fun M1 => Fr Sns M M1 ∧ RE M1 T len true B W ∧ mI M1 47 26 = nI (B + k2) ∧ (∀ i, i ≠ j → mJ M1 76 i = mJ M 76 i) ∧ ∃ s', mI M1 47 53 = b1 s' ∧ (live = true → s' = (s && (val W).isSome) ∧ ∀ v, val W = some v → mJ M1 76 j = jj v)) := by
  obtain ⟨l1, l2, l3, l4, -⟩ := ly76 hE.1
  unfold f_X12_nextSum
  rw [grd_y l1, TT_bv, mR_wI, l2, Option.bind_some, TT_bind]
  have f00 : Fr (fun a k => a = 47 ∧ k = 28) M (wI M 47 28 0) := Fr.rf.wI ⟨rfl, rfl⟩
  have e28 : mI (wI M 47 28 0) 47 28 = 0 := mI_wIs
  generalize wI M 47 28 0 = M2 at f00 e28
  have f0 : Fr Sgo M M2 := f00.up (fun a k w => ⟨w.1, Or.inr w.2⟩)
  refine (hr M2 B W (hE.fr f0) (by rw [f00.i (by omega)]; exact hg) (Or.inl e28) live).mono ?_
  rintro ⟨M3, z⟩ ⟨f3, g3, rq⟩
  simp only at f3 g3 rq ⊢
  have f03 : Fr Sgo M M3 := f0.tr f3
  have e53 : mI M3 47 53 = b1 s := by rw [f03.i (by unfold Sgo; omega)]; exact h53
  rw [grd_y (okO_fr f03 l3), f03.2.2.2.1, l4, grd_y ((nvp (by omega)).mpr hj), nclampI (by omega), TT_bv, TT_bv, TT_bv]
  have eI : mI (wJ M3 76 j z) = mI M3 := mI_wJ
  have eJ : ∀ a i, mJ (wJ M3 76 j z) a i = if a = 76 ∧ i = j then z else mJ M3 a i := fun a i => mJ_wJ
  have f4 : Fr Sns M (wJ M3 76 j z) := (f03.up (fun a k w => Or.inl w)).wJ (Or.inr (Or.inr rfl))
  generalize wJ M3 76 j z = M4 at eI eJ f4
  have fin : ∀ s' : Bool, (live = true → s' = (s && (val W).isSome)) → TT (grd (pb (b1 s')) (bv (wI M4 47 53 (b1 s')) (fun M22 => some M22))) (fun M1 => Fr Sns M M1 ∧ RE M1 T len true B W ∧ mI M1 47 26 = nI (B + k2) ∧ (∀ i, i ≠ j → mJ M1 76 i = mJ M 76 i) ∧ ∃ s', mI M1 47 53 = b1 s' ∧ (live = true → s' = (s && (val W).isSome) ∧ ∀ v, val W = some v → mJ M1 76 j = jj v)) := fun s' hs' => by
    rw [grd_y (pb_b1 s'), TT_bv, TT_some]
    have f5 : Fr Sns M (wI M4 47 53 (b1 s')) := f4.wI (Or.inr (Or.inl ⟨rfl, rfl⟩))
    refine ⟨f5, hE.frO f5 (fun a k w => by unfold Sns Sgo at w; omega), by rw [mI_wI_ne (by omega), eI]; exact g3, fun i hi => ?_, s', mI_wIs, fun hl => ⟨hs' hl, fun v hv => ?_⟩⟩
    · rw [mJ_wI, eJ, if_neg (fun q => hi q.2)]
      exact (f03.j (by unfold Sgo; omega))
    · rw [mJ_wI, eJ, if_pos ⟨rfl, rfl⟩]
      unfold RQ at rq
      rw [if_pos ⟨hl, e28⟩, hv] at rq
      exact rq.1
  rw [eI, e53]
  cases s with
  | false =>
    rw [if_pos (show b1 false = 0 from rfl)]
    exact fin false (fun _ => by simp)
  | true =>
    rw [if_neg (by decide)]
    by_cases w : mI M3 47 28 = 0
    · rw [if_pos w]
      refine fin true (fun hl => ?_)
      unfold RQ at rq
      rw [if_pos ⟨hl, e28⟩] at rq
      cases hv : val W with
      | none =>
        rw [hv] at rq
        have := rq.2
        rw [w] at this
        exact absurd this (by decide)
      | some v => rfl
    · rw [if_neg w]
      refine fin false (fun hl => ?_)
      unfold RQ at rq
      rw [if_pos ⟨hl, e28⟩] at rq
      cases hv : val W with
      | none => rfl
      | some v =>
        rw [hv] at rq
        exact absurd rq.2 w
/-- the words of ORDERS, by HOUSES, YEAR, how many are done and the last DISH -/
def wdR (A : List (Option Nat × Nat × List Nat)) (y dn : Nat) (la : Int32) (i : Nat) : Int32 := if i = 0 then nI y else if i = 1 then nI A.length else if i = 2 then nI dn else if i = 3 then la else if i < 16 then (match A[i - 4]? with
  | none => -1
  | some e => nI e.2.2.length) else (match A[(i - 16) / 6]? with
  | none => -1
  | some e => nI (e.2.2.count ((i - 16) % 6)))
theorem wdR_who {M : Mem} {A : List (Option Nat × Nat × List Nat)} {y dn : Nat} {la : Int32} (hk : KST (mI M 49) A y) (h0 : mI M 62 0 = nI y) (h1 : mI M 62 1 = nI A.length) (h2 : mI M 62 2 = nI dn) (h3 : mI M 62 3 = la) : WHO M (wdR A y dn la) := by
  obtain ⟨k1, k2, k3, k4, k5⟩ := hk
  refine ⟨fun i hi => ?_, A.length, k1, k2, fun h hh => ⟨fun hl => ?_, fun hl => ?_⟩⟩
  · match i, hi with
    | 0, _ => exact h0
    | 1, _ => exact h1
    | 2, _ => exact h2
    | 3, _ => exact h3
  · have hc := List.getElem?_eq_getElem hl
    generalize A[h] = e at hc
    obtain ⟨-, -, g3, -, -, g6⟩ := k5 h e hc
    refine ⟨e.2.2, g3, g6, ?_, fun t ht => ?_⟩
    · unfold wdR
      rw [if_neg (by omega), if_neg (by omega), if_neg (by omega), if_neg (by omega), if_pos (by omega), show 4 + h - 4 = h from by omega, hc]
    · unfold wdR
      rw [if_neg (by omega), if_neg (by omega), if_neg (by omega), if_neg (by omega), if_neg (by omega), show (16 + h * 6 + t - 16) / 6 = h from by omega, show (16 + h * 6 + t - 16) % 6 = t from by omega, hc]
  · have hc : A[h]? = none := List.getElem?_eq_none_iff.mpr hl
    refine ⟨?_, fun t ht => ?_⟩
    · unfold wdR
      rw [if_neg (by omega), if_neg (by omega), if_neg (by omega), if_neg (by omega), if_pos (by omega), show 4 + h - 4 = h from by omega, hc]
    · unfold wdR
      rw [if_neg (by omega), if_neg (by omega), if_neg (by omega), if_neg (by omega), if_neg (by omega), show (16 + h * 6 + t - 16) / 6 = h from by omega, hc]
/-- one ORDER is run once: what becomes of HOUSES, YEAR, how many are done, the last DISH; or why not -/
noncomputable def or1 (K : Nat → Int32) (o : OSM) (A : List (Option Nat × Nat × List Nat)) (y dn : Nat) (la : Int32) : Nat ⊕ (List (Option Nat × Nat × List Nat) × Nat × Nat × Int32) := if o.2.2.1 (wdR A y dn la) = some true then (match o.2.2.2.1 (wdR A y dn la) with
  | none => .inl 3
  | some v => if o.1 = 5 then (if 0 ≤ v ∧ v ≤ 999 then .inr (A, v.toNat, dn + 1, la) else .inl 3) else (match (if o.1 = 1 then o.2.2.2.2.1 (wdR A y dn la) else some 0), o.2.2.2.2.2 (wdR A y dn la) with
    | some th, some pl => (match gbO K A y (ii v) (nI o.1) (ii pl) (ii th) with
      | .inl e => .inl (if e = 5 then 5 else 3)
      | .inr l => .inr (A ++ [(some (ii v).toNatClampNeg, y, l)], y, dn + 1, nI (num l)))
    | _, _ => .inl 3)) else .inr (A, y, dn, la)
