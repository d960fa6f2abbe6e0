/-! the tokens of a tape; the class cuts them -/
section
variable (bt : Nat → Nat) (n : Nat)
def runE (kd : Nat) : Nat → Nat → Nat
  | 0, j => j
  | f + 1, j => if j < n ∧ kdB (bt j) = kd then runE kd f (j + 1) else j
def endT (k : Nat) : Nat := if kdB (bt k) = 2 then k + 1 else runE bt n (kdB (bt k)) n (k + 1)
def nmC (a : Nat) : Nat → Nat
  | 0 => 0
  | m + 1 => min (nmC a m * 10 + bt (a + m) - 48) 1001
def nmR (a : Nat) : Nat → Nat
  | 0 => 0
  | m + 1 => if 1000000 < nmR a m then nmR a m else 10 * nmR a m + bt (a + m) - 48
def tokC (k : Nat) : Nat := if kdB (bt k) = 2 then bt k else if kdB (bt k) = 0 then wTok (slB bt k (endT bt n k)) else 1000 + nmC bt k (endT bt n k - k)
def cutL : Nat → Nat → List (Nat × Nat)
  | 0, _ => []
  | f + 1, k => if n ≤ k then [] else if bt k = 32 then cutL f (endT bt n k) else (tokC bt n k, k) :: cutL f (endT bt n k)
end
section
variable {bt : Nat → Nat} {n : Nat}
theorem runE_le {kd : Nat} : ∀ f j, j ≤ n → j ≤ runE bt n kd f j ∧ runE bt n kd f j ≤ n
  | 0, j, h => ⟨Nat.le_refl _, h⟩
  | f + 1, j, h => by
    rw [runE]
    split
    · rename_i q
      have := runE_le (kd := kd) f (j + 1) (by omega)
      omega
    · exact ⟨Nat.le_refl _, h⟩
theorem runE_kd {kd : Nat} : ∀ f j i, j ≤ i → i < runE bt n kd f j → kdB (bt i) = kd
  | 0, j, i, h1, h2 => by rw [runE] at h2; omega
  | f + 1, j, i, h1, h2 => by
    rw [runE] at h2
    split at h2
    · rename_i q
      by_cases e : i = j
      · rw [e]; exact q.2
      · exact runE_kd f (j + 1) i (by omega) h2
    · omega
theorem endT_le {k : Nat} (h : k < n) : k < endT bt n k ∧ endT bt n k ≤ n := by
  unfold endT
  split
  · omega
  · have := runE_le (bt := bt) (n := n) (kd := kdB (bt k)) n (k + 1) (by omega)
    omega
theorem endT_kd {k i : Nat} (h1 : k ≤ i) (h2 : i < endT bt n k) : kdB (bt i) = kdB (bt k) := by
  unfold endT at h2
  split at h2
  · rw [show i = k by omega]
  · by_cases e : i = k
    · rw [e]
    · exact runE_kd n (k + 1) i (by omega) h2
theorem kd_dig {b : Nat} (h : kdB b = 1) : 48 ≤ b ∧ b ≤ 57 := by
  unfold kdB at h
  split at h
  · omega
  · split at h
    · assumption
    · omega
theorem nm_eq {a m : Nat} (h : ∀ i, i < m → 48 ≤ bt (a + i) ∧ bt (a + i) ≤ 57) : nmC bt a m = min (nmR bt a m) 1001 ∧ nmR bt a m ≤ 10000009 := by
  induction m with
  | zero => exact ⟨rfl, Nat.zero_le _⟩
  | succ m ih =>
    obtain ⟨h1, h2⟩ := ih (fun i hi => h i (by omega))
    have := h m (by omega)
    rw [nmC, nmR, h1]
    split <;> omega
theorem kd_32 {b : Nat} (h : b = 32) : kdB b = 2 := by
  rw [h]
  decide
theorem cutL_fuel : ∀ f g k, n + 1 ≤ f + k → n + 1 ≤ g + k → cutL bt n f k = cutL bt n g k := by
  intro f
  induction f with
  | zero =>
    intro g k h1 h2
    cases g with
    | zero => rfl
    | succ g => rw [cutL, cutL, if_pos (by omega)]
  | succ f ih =>
    intro g k h1 h2
    cases g with
    | zero => rw [cutL, cutL, if_pos (by omega)]
    | succ g =>
      rw [cutL, cutL]
      by_cases q : n ≤ k
      · rw [if_pos q, if_pos q]
      · have := endT_le (bt := bt) (n := n) (k := k) (by omega)
        rw [if_neg q, if_neg q, ih g (endT bt n k) (by omega) (by omega)]
/-- all tokens from a place on -/
def cutA (bt : Nat → Nat) (n k : Nat) : List (Nat × Nat) := cutL bt n (n + 1) k
theorem cutA_end {k : Nat} (h : n ≤ k) : cutA bt n k = [] := by
  unfold cutA
  rw [cutL, if_pos h]
theorem cutA_blank {k : Nat} (h : k < n) (h2 : bt k = 32) : cutA bt n k = cutA bt n (endT bt n k) := by
  have := endT_le (bt := bt) h
  unfold cutA
  rw [cutL, if_neg (by omega), if_pos h2]
  exact cutL_fuel _ _ _ (by omega) (by omega)
theorem cutA_tok {k : Nat} (h : k < n) (h2 : bt k ≠ 32) : cutA bt n k = (tokC bt n k, k) :: cutA bt n (endT bt n k) := by
  have := endT_le (bt := bt) h
  unfold cutA
  rw [cutL, if_neg (by omega), if_neg h2]
  congr 1
  exact cutL_fuel _ _ _ (by omega) (by omega)
theorem cutA_len : ∀ m k, k + m = n → (cutA bt n k).length ≤ m := by
  intro m
  induction m using Nat.strongRecOn with
  | ind m ih =>
    intro k hk
    by_cases h : k < n
    · have e := endT_le (bt := bt) h
      have := ih (n - endT bt n k) (by omega) (endT bt n k) (by omega)
      by_cases h2 : bt k = 32
      · rw [cutA_blank h h2]
        omega
      · rw [cutA_tok h h2, List.length_cons]
        omega
    · rw [cutA_end (by omega)]
      simp
theorem tokC_b (hb : ∀ i, i < n → bt i < 256) {k : Nat} (h : k < n) : (tokC bt n k < 284 ∨ 1000 ≤ tokC bt n k) ∧ tokC bt n k ≤ 2001 ∧ tokC bt n k ≠ 256 := by
  have h1 := hb k h
  unfold tokC
  split
  · omega
  split
  · have := wTok_lt (slB bt k (endT bt n k))
    omega
  · have : nmC bt k (endT bt n k - k) ≤ 1001 := by
      cases endT bt n k - k with
      | zero => exact Nat.zero_le _
      | succ m => rw [nmC]; omega
    omega
end
section
variable {M : Mem} {n : Nat} {bt : Nat → Nat}
theorem c_number (hC : LayC M) (ht : TAPE M n bt) {a b : Nat} (hab : a ≤ b) (hbn : b ≤ n) (hd : ∀ i, a ≤ i → i < b → 48 ≤ bt i ∧ bt i ≤ 57) : loopO (σ := Int32 × Int32) (ρ := Int32) (fun s1 => if nI b ≤ s1.2 then (some (.inr s1.1)) else (Option.bind (f_X7_byteAt M 11 s1.2) (fun q10 => some (.inl (mmin (((s1.1 * 10) + q10) - 48) 1001, s1.2 + 1))))) (0, nI a) = some (nI (nmC bt a (b - a))) := by
  have h400 := ht.1
  apply TT.is
  refine TT_for (b - a) (fun m s => s = (nI (nmC bt a m), nI (a + m))) ?_ (Nat.zero_le _) rfl
  rintro m _ hm rfl
  rw [TT_if, nleI (by omega) (by omega)]
  refine ⟨fun q => ?_, fun q => ?_⟩
  · obtain rfl : m = b - a := by omega
    rw [TT_some]
    rfl
  · have hdd := hd (a + m) (by omega) (by omega)
    have hc : nmC bt a m ≤ 1001 := by
      cases m with
      | zero => exact Nat.zero_le _
      | succ m => rw [nmC]; omega
    simp only
    rw [c_byteAt hC ht (by omega), Option.bind_some, TT_some, show (10 : Int32) = nI 10 from rfl, show (48 : Int32) = nI 48 from rfl, nmul, nadd, nsub (by omega), nsucc]
    refine ⟨by omega, ?_⟩
    have em : mmin (nI (nmC bt a m * 10 + bt (a + m) - 48)) 1001 = nI (min (nmC bt a m * 10 + bt (a + m) - 48) 1001) := by
      unfold mmin
      by_cases w : 1001 < nmC bt a m * 10 + bt (a + m) - 48
      · rw [if_pos (show (1001 : Int32) < nI (nmC bt a m * 10 + bt (a + m) - 48) from (nltI (a := 1001) (by decide) (by omega)).mpr w), show min (nmC bt a m * 10 + bt (a + m) - 48) 1001 = 1001 by omega]
        rfl
      · rw [if_neg (show ¬ (1001 : Int32) < nI (nmC bt a m * 10 + bt (a + m) - 48) from fun e => w ((nltI (a := 1001) (by decide) (by omega)).mp e)), show min (nmC bt a m * 10 + bt (a + m) - 48) 1001 = nmC bt a m * 10 + bt (a + m) - 48 by omega]
    rw [em]
    rfl
theorem kd_cases (b : Nat) : kdB b = 0 ∨ kdB b = 1 ∨ kdB b = 2 := by
  unfold kdB
  split
  · exact Or.inl rfl
  · split
    · exact Or.inr (Or.inl rfl)
    · exact Or.inr (Or.inr rfl)
theorem c_tokenOf (hC : LayC M) (ht : TAPE M n bt) {k : Nat} (hk : k < n) : f_X7_tokenOf M 11 (nI (kdB (bt k))) (nI k) (nI (endT bt n k)) = some (nI (tokC bt n k)) := by
  have he := endT_le (bt := bt) hk
  have hC2 := hC
  unfold LayC at hC2
  unfold f_X7_tokenOf tokC
  rcases kd_cases (bt k) with e | e | e
  · rw [e, if_neg (show ¬ nI 0 = 2 by decide), if_pos (show nI 0 = 0 from rfl), if_neg (by decide), if_pos rfl]
    simp only [hC2, grd_T]
    rw [c_wordOf hC ht (by omega) he.2, Option.bind_some]
  · rw [e, if_neg (show ¬ nI 1 = 2 by decide), if_neg (show ¬ nI 1 = 0 by decide), if_neg (by decide), if_neg (by decide)]
    simp only [hC2, grd_T, bv]
    rw [c_number hC ht (by omega) he.2 (fun i h1 h2 => kd_dig (by rw [endT_kd h1 h2]; exact e)), Option.bind_some, show (1000 : Int32) = nI 1000 from rfl, nadd]
  · rw [e, if_pos (show nI 2 = 2 from rfl), if_pos rfl]
    simp only [hC2, grd_T]
    rw [c_byteAt hC ht hk, Option.bind_some]
theorem c_run1 (hC : LayC M) (ht : TAPE M n bt) {k : Nat} (hk : k < n) : loopO (σ := Int32) (ρ := Int32) (fun s14 => if nI (kdB (bt k)) = 2 then (some (.inr s14)) else (if nI n ≤ s14 then (some (.inr s14)) else (Option.bind (f_X7_kindAt M 11 s14) (fun q22 => if q22 = nI (kdB (bt k)) then (some (.inl (s14 + 1))) else (some (.inr s14)))))) (nI (k + 1)) = some (nI (endT bt n k)) := by
  have h400 := ht.1
  have hkd : ∀ b, kdB b < 3 := fun b => by rcases kd_cases b with e | e | e <;> rw [e] <;> decide
  have e2 : (nI (kdB (bt k)) = 2) ↔ kdB (bt k) = 2 := eL (by have := hkd (bt k); omega) 2 (by decide)
  apply TT.is
  unfold endT
  by_cases q : kdB (bt k) = 2
  · rw [loopO_eq, if_pos (e2.mpr q), if_pos q]
    exact ⟨_, rfl, rfl⟩
  · rw [if_neg q]
    have key : ∀ f j, j ≤ n → n ≤ f + j → TT (loopO (σ := Int32) (ρ := Int32) (fun s14 => if nI (kdB (bt k)) = 2 then (some (.inr s14)) else (if nI n ≤ s14 then (some (.inr s14)) else (Option.bind (f_X7_kindAt M 11 s14) (fun q22 => if q22 = nI (kdB (bt k)) then (some (.inl (s14 + 1))) else (some (.inr s14)))))) (nI j)) (fun x => x = nI (runE bt n (kdB (bt k)) f j)) := by
      intro f
      induction f with
      | zero =>
        intro j h1 h2
        obtain rfl : j = n := by omega
        rw [loopO_eq, if_neg (fun w => q (e2.mp w)), if_pos ((nleI (by omega) (by omega)).mpr (Nat.le_refl _))]
        exact ⟨_, rfl, rfl⟩
      | succ f ih =>
        intro j h1 h2
        rw [loopO_eq, if_neg (fun w => q (e2.mp w)), runE]
        by_cases w1 : j < n
        · rw [if_neg (fun w => by have := (nleI (by omega) (by omega)).mp w; omega), c_kindAt hC ht w1, Option.bind_some]
          by_cases w2 : kdB (bt j) = kdB (bt k)
          · rw [if_pos (by rw [w2]), if_pos ⟨w1, w2⟩]
            simp only
            rw [nsucc]
            exact ih (j + 1) (by omega) (by omega)
          · rw [if_neg (fun e => w2 ((neqI (by have := hkd (bt j); omega) (by have := hkd (bt k); omega)).mp e)), if_neg (fun e => w2 e.2)]
            exact ⟨_, rfl, rfl⟩
        · rw [if_pos ((nleI (by omega) (by omega)).mpr (by omega)), if_neg (fun e => w1 e.1)]
          exact ⟨_, rfl, rfl⟩
    exact key n (k + 1) (by omega) (by omega)
end
