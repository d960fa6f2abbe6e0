/-! changes() on both sides -/
theorem mem_inn {gt : Nat → Bool} {sd : Nat → Option Nat} {lw : Nat → Nat → Nat → Nat → Nat → Option Nat} {l : List Nat} {s i : Nat} {c : List Nat × Nat} : c ∈ inn gt sd lw l s i ↔ ∃ j, j < i ∧ cmk gt sd lw l s (j / thn s) (j % thn s) = some c := by
  unfold inn
  rw [List.mem_filterMap]
  constructor
  · rintro ⟨j, h1, h2⟩
    exact ⟨j, List.mem_range.mp h1, h2⟩
  · rintro ⟨j, h1, h2⟩
    exact ⟨j, List.mem_range.mpr h1, h2⟩
theorem mem_chp {gt : Nat → Bool} {sd : Nat → Option Nat} {lw : Nat → Nat → Nat → Nat → Nat → Option Nat} {l : List Nat} {c : List Nat × Nat} : ∀ s i, c ∈ chp gt sd lw l s i ↔ (∃ s' j, s' < s ∧ j < (l.length + 1) * thn s' ∧ cmk gt sd lw l s' (j / thn s') (j % thn s') = some c) ∨ ∃ j, j < i ∧ cmk gt sd lw l s (j / thn s) (j % thn s) = some c := by
  intro s
  induction s with
  | zero =>
    intro i
    unfold chp
    rw [mem_inn]
    constructor
    · intro h
      exact Or.inr h
    · rintro (⟨s', j, h, _⟩ | h)
      · omega
      · exact h
  | succ s ih =>
    intro i
    unfold chp
    rw [List.mem_append, ih, mem_inn]
    constructor
    · rintro ((⟨s', j, h1, h2, h3⟩ | ⟨j, h1, h2⟩) | h)
      · exact Or.inl ⟨s', j, by omega, h2, h3⟩
      · exact Or.inl ⟨s, j, by omega, h1, h2⟩
      · exact Or.inr h
    · rintro (⟨s', j, h1, h2, h3⟩ | h)
      · by_cases e : s' = s
        · subst e
          exact Or.inl (Or.inr ⟨j, h2, h3⟩)
        · exact Or.inl (Or.inl ⟨s', j, by omega, h2, h3⟩)
      · exact Or.inr h
theorem thn_pos (s : Nat) : 0 < thn s := by
  unfold thn
  split <;> omega
/-- all changes of a DISH -/
theorem mem_chs {gt : Nat → Bool} {sd : Nat → Option Nat} {lw : Nat → Nat → Nat → Nat → Nat → Option Nat} {l : List Nat} {c : List Nat × Nat} : c ∈ chs gt sd lw l ↔ ∃ s p t, s < 5 ∧ p ≤ l.length ∧ t < thn s ∧ cmk gt sd lw l s p t = some c := by
  unfold chs
  rw [mem_chp]
  constructor
  · rintro (⟨s', j, h1, h2, h3⟩ | ⟨j, h1, h2⟩)
    · exact ⟨s', j / thn s', j % thn s', by omega, by have := Nat.div_lt_of_lt_mul (Nat.mul_comm (l.length + 1) (thn s') ▸ h2); omega, Nat.mod_lt _ (thn_pos s'), h3⟩
    · exact ⟨4, j / thn 4, j % thn 4, by omega, by have := Nat.div_lt_of_lt_mul (Nat.mul_comm (l.length + 1) (thn 4) ▸ h1); omega, Nat.mod_lt _ (thn_pos 4), h2⟩
  · rintro ⟨s, p, t, h1, h2, h3, h4⟩
    have e1 : (p * thn s + t) / thn s = p := by
      rw [Nat.mul_comm, Nat.mul_add_div (thn_pos s), Nat.div_eq_of_lt h3, Nat.add_zero]
    have e2 : (p * thn s + t) % thn s = t := by
      rw [Nat.mul_comm, Nat.mul_add_mod, Nat.mod_eq_of_lt h3]
    have e3 : p * thn s + t < (l.length + 1) * thn s := by
      have : p * thn s ≤ l.length * thn s := Nat.mul_le_mul_right _ h2
      rw [Nat.add_mul]
      omega
    by_cases e : s = 4
    · subst e
      exact Or.inr ⟨p * thn 4 + t, e3, by rw [e1, e2]; exact h4⟩
    · exact Or.inl ⟨s, p * thn s + t, by omega, e3, by rw [e1, e2]; exact h4⟩
theorem EDG_len {K : Nat → Int32} {y : Nat} {l : List Nat} (hl : DL l) : (EDG K y l).length ≤ 45 := chp_len hl 4 _ (by omega)
theorem EDG_DL {K : Nat → Int32} (hk : KTH K) {y : Nat} {l : List Nat} (hl : DL l) {c : List Nat × Nat} (h : c ∈ EDG K y l) : DL c.1 ∧ c.2 ≤ 99 := by
  obtain ⟨s, p, t, h1, h2, h3, h4⟩ := mem_chs.mp h
  refine cmk_DL hl (fun s t p n h w e => lwK_le e) (fun t ht u q => ((sdK_v hk ht).2 u q).1) (t := t) ?_ h4
  have : thn s ≤ 6 := by
    unfold thn
    split <;> omega
  omega
def nthA (o : Option (List Nat × Nat)) : Int32 := match o with
  | some c => nI (num c.1)
  | none => -1
def chsA (L : List (List Nat × Nat)) (p2 : Int32) : Int32 := if p2 = -1 then nI L.length else if p2 < 0 then -1 else nthA L[p2.toNatClampNeg]?
theorem m1_or {p : Int32} : p = -1 ∨ (p ≠ -1 ∧ p < 0 ∧ ¬ -1 ≤ p) ∨ (p ≠ -1 ∧ ∃ i, p = nI i ∧ i < 2147483648 ∧ ¬ p < 0 ∧ -1 ≤ p) := by
  have t0 : (0 : Int32).toInt = 0 := rfl
  have t1 : (-1 : Int32).toInt = -1 := rfl
  by_cases h : p = -1
  · exact Or.inl h
  · have h' : p.toInt ≠ -1 := fun e => h (Int32.toInt_inj.mp e)
    by_cases h2 : p < 0
    · refine Or.inr (Or.inl ⟨h, h2, fun q => ?_⟩)
      simp only [Int32.lt_iff_toInt_lt, Int32.le_iff_toInt_le] at h2 q
      omega
    · obtain ⟨i, hi, h3⟩ := nat_of (x := p) (by simp only [Int32.lt_iff_toInt_lt, Int32.le_iff_toInt_le] at h2 ⊢; omega)
      refine Or.inr (Or.inr ⟨h, i, hi, h3, h2, ?_⟩)
      simp only [Int32.lt_iff_toInt_lt, Int32.le_iff_toInt_le] at h2 ⊢
      omega
theorem r_changes_y {M1 : Mem} (m1 : MID M1) {l : List Nat} (hl : DL l) {y : Nat} (hy : y ≤ 999) (h54 : mI M1 49 54 = nI y) (p2 : Int32) (e2 : f_X12_isDish (nI (num l)) = some 1) : TT (f_X12_changes M1 47 (nI (num l)) p2) (fun q => q.2 = chsA (EDG (mI M1 49) y l) p2 ∧ Fr Srv M1 q.1) := by
  have hM2 := m1.1.2.1
  unfold LayM at hM2
  have g54 : vp_in 54 5666 := show vp_in (nI 54) 5666 from (nvp (by omega)).mpr (by omega)
  have c54 : (54 : Int32).toNatClampNeg = 54 := by decide
  have hlen := EDG_len (K := mI M1 49) (y := y) hl
  unfold f_X12_changes
  rw [e2, Option.bind_some, if_neg (show ¬ (1 : Int32) = 0 by decide)]
  simp only [hM2, grd_T, Option.bind_some, c54]
  rw [grd_y g54, h54, TT_bind]
  refine (r_listsK m1 hl hy).mono ?_
  rintro M2 ⟨m2, k2, f2, l2⟩
  unfold chsA
  generalize EDG (mI M1 49) y l = L at *
  rcases m1_or (p := p2) with w | ⟨w, w1, w2⟩ | ⟨w, i, rfl, w1, w2, w3⟩
  · rw [if_pos w, TT_some, if_pos w]
    exact ⟨l2.1, f2.up Sls_rv⟩
  · rw [if_neg w, lies_bind, l2.1, if_neg (fun q => by have t0 : (0 : Int32).toInt = 0 := rfl; simp only [Int32.lt_iff_toInt_lt, Int32.le_iff_toInt_le] at w1 q; omega), TT_some, if_neg w, if_pos w1]
    exact ⟨rfl, f2.up Sls_rv⟩
  · rw [if_neg w, lies_bind, l2.1, if_neg w, if_neg w2, nclampI w1]
    have hM3 := m2.1.2.1
    unfold LayM at hM3
    by_cases w5 : i < L.length
    · rw [if_pos (by
        refine ⟨by rw [show (0 : Int32) = nI 0 from rfl, nleI (by omega) (by omega)]; omega, ?_⟩
        rw [Int32.le_iff_toInt_le, pred_toInt (by omega), nI_tI w1]
        omega)]
      simp only [hM3, grd_T, Option.bind_some]
      rw [grd_y ((nvp (by omega)).mpr (by omega)), TT_some]
      refine ⟨?_, f2.up Sls_rv⟩
      rw [List.getElem?_eq_getElem w5]
      exact (l2.2 i _ (List.getElem?_eq_getElem w5)).1
    · rw [if_neg (fun q => by
        have := q.2
        rw [Int32.le_iff_toInt_le, pred_toInt (by omega), nI_tI w1] at this
        omega), TT_some, List.getElem?_eq_none (by omega)]
      exact ⟨rfl, f2.up Sls_rv⟩
theorem c_changes_y {B : Nat} {M : Mem} (h : MID M) (hS : SCI B M) (hB : B < 16777000) {l : List Nat} (hl : DL l) {y : Nat} (hy : y ≤ 999) (h54 : mI M 49 54 = nI y) (p2 : Int32) (e1 : f_X6_rankOf (nI (num l)) = some (nI (rank l))) : TT (f_X11_changes M 0 (nI (num l)) p2) (fun q => q.2 = chsA (EDG (mI M 49) y l) p2 ∧ Fw Slk Rop M q.1 ∧ mn q.1 = mn M ∧ mz q.1 = mz M ∧ MID q.1 ∧ mI q.1 49 = mI M 49 ∧ SCI (B + 1) q.1) := by
  have hC2 := h.1.1
  have kt := h.1.2.2.1.1
  have hlen := EDG_len (K := mI M 49) (y := y) hl
  have e11 : mI M 1 11 = nI y := h.1.2.2.2.1.2.1.2.2.2.1.trans h54
  unfold LayC at hC2
  unfold f_X11_changes
  rw [e1, Option.bind_some, if_neg (rank_ne hl)]
  by_cases w0 : -1 ≤ p2
  · rw [if_pos w0]
    simp only [hC2, grd_T, Option.bind_some]
    rw [e11, TT_bind]
    refine (m_open h hS hB hy).mono ?_
    rintro M1 ⟨m1, o1, k1, f1, n1, z1⟩
    have hC1 := m1.1.1
    unfold LayC at hC1
    simp only [hC1, grd_T, Option.bind_some]
    rw [TT_bind]
    refine (m_listAll m1 o1 (by omega) hl).mono ?_
    rintro M2 ⟨m2, o2, k2, f2, l2⟩
    rw [k1] at l2
    have hC3 := m2.1.1
    unfold LayC at hC3
    simp only [hC3, grd_T, Option.bind_some]
    have hF : Fw Slk Rop M M2 := (f1.up Sop_lk (fun _ _ w => w)).tr ((f2.fw).up Sla_lk (fun _ _ w => w))
    have hn : mn M2 = mn M := by rw [f2.1, n1]
    have hz : mz M2 = mz M := by rw [f2.2.1, z1]
    have hk : mI M2 49 = mI M 49 := by rw [k2, k1]
    have hdl : ∀ cc, cc ∈ EDG (mI M 49) y l → DL cc.1 := fun cc q => (EDG_DL kt hl q).1
    unfold chsA
    generalize EDG (mI M 49) y l = L at *
    rcases m1_or (p := p2) with w | ⟨w, w1, w2⟩ | ⟨w, i, rfl, w1, w2, w3⟩
    · rw [if_pos w, TT_some, if_pos w]
      exact ⟨l2.1, hF, hn, hz, m2, hk, o2.sci⟩
    · exact absurd w0 w2
    · rw [if_neg w, if_neg w, if_neg w2, nclampI w1, l2.1]
      by_cases w5 : i < L.length
      · rw [if_neg (fun q => by have := (nleI (by omega) (by omega)).mp q; omega), grd_y ((nvp (by omega)).mpr (by omega)), (l2.2.2 i _ (List.getElem?_eq_getElem w5)).1, num_of (hdl _ (List.getElem_mem w5)), Option.bind_some, TT_some, List.getElem?_eq_getElem w5]
        exact ⟨rfl, hF, hn, hz, m2, hk, o2.sci⟩
      · rw [if_pos ((nleI (by omega) (by omega)).mpr (by omega)), TT_some, List.getElem?_eq_none (by omega)]
        exact ⟨rfl, hF, hn, hz, m2, hk, o2.sci⟩
  · rw [if_neg w0, TT_some]
    refine ⟨?_, Fw.rf, rfl, rfl, h, rfl, hS.mono (by omega)⟩
    unfold chsA
    rcases m1_or (p := p2) with w | ⟨w, w1, w2⟩ | ⟨w, i, rfl, w1, w2, w3⟩
    · exact absurd (by rw [w]; decide) w0
    · rw [if_neg w, if_pos w1]
    · exact absurd w3 w0
theorem both_changes {c : Nat} (hc : c < 600) {M : Mem} (h : INV0 c M) (p1 p2 : Int32) : CALL c M (fun M => f_X11_changes M 0 p1 p2) (fun M => f_X12_changes M 47 p1 p2) := by
  rcases dish_cases p1 with ⟨_, e1, e2⟩ | ⟨l, hl, rfl, e1, e2⟩
  · refine CALL.same h (x := -1) ?_ ?_
    · show f_X11_changes M 0 p1 p2 = _
      unfold f_X11_changes
      rw [e1, Option.bind_some, if_pos rfl]
    · show f_X12_changes M 47 p1 p2 = _
      unfold f_X12_changes
      rw [e2, Option.bind_some, if_pos rfl]
  · obtain ⟨y, hy, h54⟩ := h.1.2.2.1.2.1.1
    obtain ⟨m1, s1⟩ := h.mid
    obtain ⟨⟨M1, x⟩, f1, a0, a1, a2, a3, a4, a5, a6⟩ := c_changes_y m1 s1 (by omega) hl hy h54 p2 e1
    simp only at a0 a1 a2 a3 a4 a5 a6
    obtain ⟨⟨M2, x2⟩, f2, b0, b1'⟩ := r_changes_y a4 hl hy (by rw [a5]; exact h54) p2 e2
    simp only at b0 b1'
    rw [a5, ← a0] at b0
    subst b0
    exact CALL.look h f1 f2 a1 a2 a3 (a6.mono (by omega)) b1'
