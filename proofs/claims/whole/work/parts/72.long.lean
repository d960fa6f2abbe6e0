/-! LONGS as integers -/
def R64 (z : Int) : Prop := -9223372036854775808 ≤ z ∧ z < 9223372036854775808
theorem jj_toInt {z : Int} (h : R64 z) : (jj z).toInt = z := Int64.toInt_ofInt_of_le (by have := h.1; simpa using this) (by have := h.2; simpa using this)
theorem jj_add (a b : Int) : jj a + jj b = jj (a + b) := (Int64.ofInt_add a b).symm
theorem jj_sub (a b : Int) : jj a - jj b = jj (a - b) := (Int64.ofInt_sub a b).symm
theorem jj_mul (a b : Int) : jj a * jj b = jj (a * b) := (Int64.ofInt_mul a b).symm
theorem jj_inj {a b : Int} (ha : R64 a) (hb : R64 b) : jj a = jj b ↔ a = b := by
  constructor
  · intro h
    have := congrArg Int64.toInt h
    rwa [jj_toInt ha, jj_toInt hb] at this
  · intro h
    rw [h]
theorem jj_lt {a b : Int} (ha : R64 a) (hb : R64 b) : jj a < jj b ↔ a < b := by rw [Int64.lt_iff_toInt_lt, jj_toInt ha, jj_toInt hb]
theorem jj_lit (n : Nat) : (OfNat.ofNat n : Int64) = jj (n : Int) := by
  unfold jj
  apply Int64.toInt_inj.mp
  rw [Int64.toInt_ofInt]
  show (Int64.ofNat n).toInt = _
  rw [Int64.toInt_ofNat']
theorem jj_neg (a : Int) : -jj a = jj (-a) := (Int64.ofInt_neg a).symm
theorem lgc {a b : Int} (ha : R64 a) (hb : R64 b) : lg_cmp (jj a) (jj b) = if b < a then 1 else if a = b then 0 else -1 := by
  unfold lg_cmp
  by_cases h1 : b < a
  · rw [if_pos ((jj_lt hb ha).mpr h1), if_pos h1]
  · rw [if_neg (fun h => h1 ((jj_lt hb ha).mp h)), if_neg h1]
    by_cases h2 : a = b
    · rw [if_pos ((jj_inj ha hb).mpr h2), if_pos h2]
    · rw [if_neg (fun h => h2 ((jj_inj ha hb).mp h)), if_neg h2]
theorem lgc0 {a b : Int} (ha : R64 a) (hb : R64 b) : lg_cmp (jj a) (jj b) = 0 ↔ a = b := by
  rw [lgc ha hb]
  by_cases h1 : b < a
  · rw [if_pos h1]
    exact ⟨fun h => absurd h (by decide), fun h => by omega⟩
  · rw [if_neg h1]
    by_cases h2 : a = b
    · rw [if_pos h2]
      exact ⟨fun _ => h2, fun _ => rfl⟩
    · rw [if_neg h2]
      exact ⟨fun h => absurd h (by decide), fun h => absurd h h2⟩
theorem lgc1 {a b : Int} (ha : R64 a) (hb : R64 b) : 0 < lg_cmp (jj a) (jj b) ↔ b < a := by
  rw [lgc ha hb]
  by_cases h1 : b < a
  · rw [if_pos h1]
    exact ⟨fun _ => h1, fun _ => by decide⟩
  · rw [if_neg h1]
    by_cases h2 : a = b
    · rw [if_pos h2]
      exact ⟨fun h => absurd h (by decide), fun h => absurd h h1⟩
    · rw [if_neg h2]
      exact ⟨fun h => absurd h (by decide), fun h => absurd h h1⟩
theorem lgc2 {a b : Int} (ha : R64 a) (hb : R64 b) : 0 ≤ lg_cmp (jj a) (jj b) ↔ b ≤ a := by
  rw [lgc ha hb]
  by_cases h1 : b < a
  · rw [if_pos h1]
    exact ⟨fun _ => by omega, fun _ => by decide⟩
  · rw [if_neg h1]
    by_cases h2 : a = b
    · rw [if_pos h2]
      exact ⟨fun _ => by omega, fun _ => by decide⟩
    · rw [if_neg h2]
      exact ⟨fun h => absurd h (by decide), fun h => by omega⟩
theorem lgc3 {a b : Int} (ha : R64 a) (hb : R64 b) : lg_cmp (jj a) (jj b) ≤ 0 ↔ a ≤ b := by
  rw [lgc ha hb]
  by_cases h1 : b < a
  · rw [if_pos h1]
    exact ⟨fun h => absurd h (by decide), fun h => by omega⟩
  · rw [if_neg h1]
    by_cases h2 : a = b
    · rw [if_pos h2]
      exact ⟨fun _ => by omega, fun _ => by decide⟩
    · rw [if_neg h2]
      exact ⟨fun _ => by omega, fun _ => by decide⟩
theorem lgc4 {a b : Int} (ha : R64 a) (hb : R64 b) : lg_cmp (jj a) (jj b) < 0 ↔ a < b := by
  rw [lgc ha hb]
  by_cases h1 : b < a
  · rw [if_pos h1]
    exact ⟨fun h => absurd h (by decide), fun h => by omega⟩
  · rw [if_neg h1]
    by_cases h2 : a = b
    · rw [if_pos h2]
      exact ⟨fun h => absurd h (by decide), fun h => by omega⟩
    · rw [if_neg h2]
      exact ⟨fun _ => by omega, fun _ => by decide⟩
/-- what an int can be -/
def S32 (z : Int) : Prop := -2147483648 ≤ z ∧ z ≤ 2147483648
theorem tdiv_abs (a b : Int) (h : S32 a) : S32 (a.tdiv b) := by
  have h1 : (a.tdiv b).natAbs ≤ a.natAbs := by
    rw [Int.natAbs_tdiv]
    exact Nat.div_le_self _ _
  have := h.1
  have := h.2
  exact ⟨by omega, by omega⟩
theorem tmod_abs (a b : Int) (h : S32 a) : S32 (a.tmod b) := by
  have h1 : (a.tmod b).natAbs ≤ a.natAbs := by
    rw [Int.natAbs_tmod]
    exact Nat.mod_le _ _
  have := h.1
  have := h.2
  exact ⟨by omega, by omega⟩
theorem S32.r {a : Int} (h : S32 a) : R64 a := ⟨by have := h.1; omega, by have := h.2; omega⟩
theorem mul_S {a b : Int} (ha : S32 a) (hb : S32 b) : R64 (a * b) := by
  have h1 : (a * b).natAbs = a.natAbs * b.natAbs := Int.natAbs_mul a b
  have h2 : a.natAbs ≤ 2147483648 := by have := ha.1; have := ha.2; omega
  have h3 : b.natAbs ≤ 2147483648 := by have := hb.1; have := hb.2; omega
  have h4 := Nat.mul_le_mul h2 h3
  exact ⟨by omega, by omega⟩
theorem jj_div {a b : Int} (ha : S32 a) (hb : S32 b) : jj a / jj b = jj (a.tdiv b) := by
  apply Int64.toInt_inj.mp
  rw [Int64.toInt_div, jj_toInt ha.r, jj_toInt hb.r, jj_toInt (tdiv_abs a b ha).r]
  have := (tdiv_abs a b ha).r
  exact Int.bmod_eq_of_le (by have := this.1; simpa using this) (by have := this.2; simpa using this)
theorem jj_rem {a b : Int} (ha : S32 a) (hb : S32 b) : lr (jj a) (jj b) = jj (a.tmod b) := by
  unfold lr
  rw [jj_div ha hb, jj_mul, jj_sub]
  congr 1
  have := Int.tmod_add_mul_tdiv a b
  have h2 : b * a.tdiv b = a.tdiv b * b := Int.mul_comm _ _
  omega
theorem jj_i (x : Int32) : x.toInt64 = jj x.toInt := by
  apply Int64.toInt_inj.mp
  have h := R32_toInt x
  rw [Int32.toInt_toInt64, jj_toInt ⟨by have := h.1; omega, by have := h.2; omega⟩]
theorem S32_i (x : Int32) : S32 x.toInt := by
  have h := R32_toInt x
  exact ⟨h.1, by have := h.2; omega⟩
theorem R64_0 : R64 0 := ⟨by decide, by decide⟩
theorem R64_G : R64 1000000000 := ⟨by decide, by decide⟩
theorem R64_g : R64 (-1000000000) := ⟨by decide, by decide⟩
theorem ap_S {op : Nat} {a b v : Int} (h : ap op a b = some v) : S32 v := by
  unfold ap at h
  obtain ⟨x, _, h2⟩ := Option.bind_eq_some_iff.mp h
  split at h2
  · cases h2
  · cases h2
    rename_i q
    exact ⟨by omega, by omega⟩
