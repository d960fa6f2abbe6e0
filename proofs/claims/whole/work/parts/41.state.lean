/-! the state: the class's valley is told by what the reference has kept -/
def tst (l : List Nat) : Nat := (l.map (fun d => 8 ^ d)).sum
def KTH (K : Nat → Int32) : Prop := ∀ t, t < 6 → (∃ w, w ≤ 9 ∧ K t = nI w) ∧ (K (6 + t) = 0 ∨ K (6 + t) = 1) ∧ (K (12 + t) = -1 ∨ ∃ u, u < 6 ∧ u ≠ t ∧ K (12 + t) = nI u)
def KTM (K : Nat → Int32) : Prop := (∃ y, y ≤ 999 ∧ K 54 = nI y) ∧ ∃ m, m ≤ 9 ∧ K 55 = nI m
def KLW (K : Nat → Int32) : Prop := ∃ c, c ≤ 6 ∧ K 57 = nI c ∧ (K 58 = -1 ∨ ∃ f, f < c ∧ K 58 = nI f)
def KHS (K : Nat → Int32) : Prop := ∃ n, n ≤ 12 ∧ K 56 = nI n ∧ ∀ h, h < n → (K (18 + 3 * h) = -1 ∨ ∃ m, m < h ∧ K (18 + 3 * h) = nI m) ∧ (∃ y, y ≤ 999 ∧ K (19 + 3 * h) = nI y) ∧ ∃ l, DL l ∧ K (20 + 3 * h) = nI (num l)
def KOK (K : Nat → Int32) : Prop := KTH K ∧ KTM K ∧ KLW K ∧ KHS K
/-- a Valley of the class (its object and rows) is told by a kept row -/
def CVt (M : Mem) (s g i : Nat) (K : Nat → Int32) : Prop := ∀ t, t < 6 → mI M s t = K t ∧ mI M g t = K (6 + t) ∧ mI M i t = K (12 + t)
def CVo (M : Mem) (o : Nat) (K : Nat → Int32) : Prop := mI M o 8 = K 56 ∧ mI M o 9 = K 57 ∧ mI M o 10 = K 58 ∧ mI M o 11 = K 54 ∧ mI M o 12 = K 55
def CVh (M : Mem) (m y d t : Nat) (K : Nat → Int32) : Prop := ∀ n h, n ≤ 12 → K 56 = nI n → h < n → mI M m h = K (18 + 3 * h) ∧ mI M y h = K (19 + 3 * h) ∧ ∀ l, DL l → K (20 + 3 * h) = nI (num l) → mI M d h = nI (rank l) ∧ mI M t h = nI (tst l)
def CV (M : Mem) (K : Nat → Int32) : Prop := CVt M 2 3 4 K ∧ CVo M 1 K ∧ CVh M 5 6 7 8 K
/-- what calls are refused by, and how often -/
def RN (n : Nat) : Prop := n = 1 ∨ n = 2 ∨ n = 3 ∨ n = 5 ∨ n = 6
def cid (n : Nat) : Nat := if n ≤ 3 then n - 1 else n - 2
def OUTS (M : Mem) : Prop := mI M 0 12 = mI M 47 0 ∧ ∀ n, RN n → mI M 45 (cid n) = mI M 48 n
def REL (M : Mem) : Prop := LayC M ∧ LayM M ∧ KOK (mI M 49) ∧ CV M (mI M 49) ∧ OUTS M
def RFC (M : Mem) (n : Nat) : Mem := wI (wI M 0 12 (-(nI n))) 45 (cid n) (mI M 45 (cid n) + 1)
def RFM (M : Mem) (n : Nat) : Mem := wI (wI M 47 0 (-(nI n))) 48 n (mI M 48 n + 1)
theorem cid_lt {n : Nat} (h : RN n) : cid n < 5 := by
  unfold RN at h
  unfold cid
  split <;> omega
theorem cid_inj {n m : Nat} (h : RN n) (h2 : RN m) (e : cid n = cid m) : n = m := by
  unfold RN at h h2
  unfold cid at e
  split at e <;> split at e <;> omega
theorem cid_eq {n : Nat} (h : RN n) : (if -(nI n) < -3 then -(-(nI n)) - 2 else -(-(nI n)) - 1) = nI (cid n) := by
  rcases h with h | h | h | h | h <;> subst h <;> decide
theorem grd_y {α : Type} {c : Prop} {t : Option α} (h : c) : grd c t = t := by
  rw [eq_true h, grd_T]
theorem c_refuse {M : Mem} (hL : LayC M) {n : Nat} (hn : RN n) : f_X11_refuse M 0 (-(nI n)) = some (RFC M n, -(nI n)) := by
  have hc := cid_lt hn
  have e := cid_eq hn
  unfold LayC at hL
  unfold f_X11_refuse
  simp only [hL, grd_T, Option.bind_some, bv, mR_wI, ok_wI, mL_wI]
  have hv : vp_in (nI (cid n)) 5 := (nvp (by omega)).mpr hc
  by_cases h : -(nI n) < -3
  · rw [if_pos h] at e ⊢
    rw [e, grd_y hv, nclampI (by omega), mI_wI_row (by decide)]
    rfl
  · rw [if_neg h] at e ⊢
    rw [e, grd_y hv, nclampI (by omega), mI_wI_row (by decide)]
    rfl
theorem r_refuses {M : Mem} (hL : LayM M) {n : Nat} (hn : RN n) : f_X12_refuses M 47 (-(nI n)) = some (RFM M n, -(nI n)) := by
  have h7 : n < 7 := by unfold RN at hn; omega
  unfold LayM at hL
  unfold f_X12_refuses
  simp only [hL, grd_T, Option.bind_some, bv, mR_wI, ok_wI, mL_wI]
  have e : -(-(nI n)) = nI n := Int32.neg_neg
  have hv : vp_in (nI n) 7 := (nvp (by omega)).mpr h7
  rw [e, grd_y hv, nclampI (by omega), mI_wI_row (by decide)]
  rfl
theorem c_accept {M : Mem} (hL : LayC M) {v : Int32} : f_X11_accept M 0 v = some (wI M 0 12 0, v) := by
  unfold LayC at hL
  unfold f_X11_accept
  simp only [hL, grd_T, bv]
theorem r_good {M : Mem} (hL : LayM M) {v : Int32} : f_X12_good M 47 v = some (wI (wI M 47 0 0) 47 1 (mI M 47 1 + 1), v) := by
  unfold LayM at hL
  unfold f_X12_good
  simp only [hL, grd_T, bv]
  rw [mI_wI_ne (by decide)]
theorem sw3 {α : Type} {x : Int32} {A B C D : Option α} {a b c : Nat} : swO x (swC 0 [(a, A), (b, B), (c, C)]) D = if x = 0 then A else if x = 1 then B else if x = 2 then C else D := rfl
theorem bl_if (c : Prop) [Decidable c] : bl (if c then 1 else 0) := by
  unfold bl
  split <;> rfl
theorem tI0 : (0 : Int32).toInt = 0 := rfl
theorem tI1 : (1 : Int32).toInt = 1 := rfl
theorem tI2 : (2 : Int32).toInt = 2 := rfl
theorem tI5 : (5 : Int32).toInt = 5 := rfl
theorem tI6 : (6 : Int32).toInt = 6 := rfl
theorem tI9 : (9 : Int32).toInt = 9 := rfl
theorem tIm1 : (-1 : Int32).toInt = -1 := rfl
theorem tI999 : (999 : Int32).toInt = 999 := rfl
theorem c_isThing (p : Int32) : f_X11_isThing p = some (if 0 ≤ p ∧ p ≤ 5 then 1 else 0) := by
  unfold f_X11_isThing
  by_cases h : 0 ≤ p ∧ p ≤ 5
  · rw [if_pos h, if_neg (by simp only [Int32.lt_iff_toInt_lt, Int32.le_iff_toInt_le, tI0, tI5] at h ⊢; omega), if_neg (by simp only [Int32.le_iff_toInt_le, tI0, tI5, tI6] at h ⊢; omega)]
  · rw [if_neg h]
    split
    · rfl
    · rw [if_pos (by rename_i h2; simp only [Int32.lt_iff_toInt_lt, Int32.le_iff_toInt_le, tI0, tI5, tI6] at h h2 ⊢; omega)]
theorem r_isThing (p : Int32) : f_X12_isThing p = some (if 0 ≤ p ∧ p ≤ 5 then 1 else 0) := by
  unfold f_X12_isThing
  rw [p_lies, Option.bind_some, grd_y (bl_if _)]
def VO (p0 p1 p2 : Int32) : Prop := (p1 = 0 ∧ 0 ≤ p2 ∧ p2 ≤ 9) ∨ (p1 = 1 ∧ (p2 = 0 ∨ p2 = 1)) ∨ (p1 = 2 ∧ p2 ≠ p0 ∧ (p2 = -1 ∨ (0 ≤ p2 ∧ p2 ≤ 5)))
theorem both_value {p0 p1 p2 : Int32} (h0 : 0 ≤ p0) : ∃ b, f_X11_isValueOf p0 p1 p2 = some b ∧ f_X12_isPut p0 p1 p2 = some b ∧ (b = 0 ∨ (b = 1 ∧ VO p0 p1 p2)) := by
  unfold f_X11_isValueOf f_X12_isPut VO
  rw [sw3]
  by_cases h1 : p1 = 0
  · subst h1
    refine ⟨if 0 ≤ p2 ∧ p2 ≤ 9 then 1 else 0, ?_, ?_, ?_⟩
    · rw [if_pos rfl]
      by_cases h : 0 ≤ p2 ∧ p2 ≤ 9
      · rw [if_pos h, if_neg (by simp only [Int32.lt_iff_toInt_lt, Int32.le_iff_toInt_le, tI0, tI9] at h ⊢; omega), if_neg (by simp only [Int32.lt_iff_toInt_lt, Int32.le_iff_toInt_le, tI0, tI9] at h ⊢; omega)]
      · rw [if_neg h]
        split
        · rfl
        · rw [if_pos (by rename_i h2; simp only [Int32.lt_iff_toInt_lt, Int32.le_iff_toInt_le, tI0, tI9] at h h2 ⊢; omega)]
    · rw [if_pos rfl, p_lies, Option.bind_some, grd_y (bl_if _)]
    · split
      · rename_i h; exact Or.inr ⟨rfl, Or.inl ⟨rfl, h⟩⟩
      · exact Or.inl rfl
  · by_cases h2 : p1 = 1
    · subst h2
      refine ⟨if 0 ≤ p2 ∧ p2 ≤ 1 then 1 else 0, ?_, ?_, ?_⟩
      · rw [if_neg (by decide), if_pos rfl]
        simp only [← Int32.toInt_inj, Int32.le_iff_toInt_le, tI0, tI1]
        by_cases a : p2.toInt = 0
        · rw [if_pos a, if_pos (by omega)]
        · rw [if_neg a]
          by_cases b : p2.toInt = 1
          · rw [if_pos b, if_pos (by omega)]
          · rw [if_neg b, if_neg (by omega)]
      · rw [if_neg h1, if_pos rfl, p_lies, Option.bind_some, grd_y (bl_if _)]
      · split
        · rename_i h
          refine Or.inr ⟨rfl, Or.inr (Or.inl ⟨rfl, ?_⟩)⟩
          simp only [← Int32.toInt_inj, Int32.le_iff_toInt_le, tI0, tI1] at h ⊢
          omega
        · exact Or.inl rfl
    · by_cases h3 : p1 = 2
      · subst h3
        rw [if_neg h1, if_neg h2, if_pos (rfl : (2 : Int32) = 2), if_neg h1, if_neg h2, if_pos (rfl : (2 : Int32) = 2)]
        rw [c_isThing, Option.bind_some, lies_bind]
        by_cases a : p2 = p0
        · subst a
          refine ⟨0, ?_, ?_, Or.inl rfl⟩
          · rw [if_neg]
            · rw [if_pos (rfl : p2 = p2), ite_self]
            · intro e
              rw [e] at h0
              exact absurd h0 (by decide)
          · rw [if_pos rfl]
        · rw [if_neg a, if_neg a]
          by_cases b : p2 = -1
          · subst b
            exact ⟨1, by rw [if_pos rfl], by rw [if_pos (by decide)], Or.inr ⟨rfl, Or.inr (Or.inr ⟨rfl, a, Or.inl rfl⟩)⟩⟩
          · rw [if_neg b]
            have b' : ¬ p2.toInt = -1 := fun e => b (Int32.toInt_inj.mp e)
            by_cases c : 0 ≤ p2 ∧ p2 ≤ 5
            · refine ⟨1, ?_, ?_, Or.inr ⟨rfl, Or.inr (Or.inr ⟨rfl, a, Or.inr c⟩)⟩⟩
              · rw [if_pos c, if_neg (by decide)]
              · rw [if_pos (by simp only [Int32.le_iff_toInt_le, tI0, tI5, tIm1] at c ⊢; omega)]
            · refine ⟨0, ?_, ?_, Or.inl rfl⟩
              · rw [if_neg c, if_pos rfl]
              · rw [if_neg (by simp only [Int32.le_iff_toInt_le, tI0, tI5, tIm1] at c ⊢; omega)]
      · refine ⟨0, ?_, ?_, Or.inl rfl⟩
        · rw [if_neg h1, if_neg h2, if_neg h3]
        · rw [if_neg h1, if_neg h2, if_neg h3]
