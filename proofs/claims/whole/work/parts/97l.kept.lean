/-! the class keeps a text -/
def KPT (M : Mem) (c u : Nat) : Mem := wR (nA (wR (nA (nO M 9 5) 14 (c * 6)) (mn M) 0 (some (mn M + 1))) 14 u) (mn M) 1 (some (mn M + 2))
theorem vu {α : Type} {f : Nat → α} {k j : Nat} {v : α} : va_up f k v j = if j = k then v else f j := rfl
theorem KPT_n {M : Mem} {c u : Nat} : mn (KPT M c u) = mn M + 3 ∧ mz (KPT M c u) = mz M + 5 + c * 6 + u := ⟨rfl, rfl⟩
theorem KPT_K {M : Mem} {c u a : Nat} : mK (KPT M c u) a = if a = mn M + 2 then 14 else if a = mn M + 1 then 14 else if a = mn M then 9 else mK M a := rfl
theorem KPT_L {M : Mem} {c u a : Nat} : mL (KPT M c u) a = if a = mn M + 2 then u else if a = mn M + 1 then c * 6 else mL M a := rfl
theorem KPT_I {M : Mem} {c u a : Nat} : mI (KPT M c u) a = if a = mn M + 2 then (fun _ => 0) else if a = mn M + 1 then (fun _ => 0) else if a = mn M then (fun _ => 0) else mI M a := rfl
theorem KPT_R {M : Mem} {c u a k : Nat} : mR (KPT M c u) a k = if a = mn M then (if k = 1 then some (mn M + 2) else if k = 0 then some (mn M + 1) else none) else if a = mn M + 2 ∨ a = mn M + 1 then none else mR M a k := by
  show va_up (α := Nat → Option Nat) _ (mn M) _ a k = _
  rw [vu]
  by_cases h : a = mn M
  · rw [if_pos h, if_pos h]
    show va_up (α := Option Nat) (va_up (α := Nat → Option Nat) (va_up (α := Nat → Option Nat) _ (mn M) _) (mn M + 2) _ (mn M)) 1 _ k = _
    rw [vu]
    by_cases h1 : k = 1
    · rw [if_pos h1, if_pos h1]
    · rw [if_neg h1, if_neg h1, vu, if_neg (by omega), vu, if_pos rfl]
      show va_up (α := Option Nat) _ 0 _ k = _
      rw [vu]
      by_cases h0 : k = 0
      · rw [if_pos h0, if_pos h0]
      · rw [if_neg h0, if_neg h0]
        show va_up (va_up (mR M) (mn M) _) (mn M + 1) _ (mn M) k = _
        rw [vu, if_neg (by omega), vu, if_pos rfl]
  · rw [if_neg h, if_neg h]
    show va_up (α := Nat → Option Nat) _ (mn M + 2) _ a k = _
    rw [vu]
    by_cases h2 : a = mn M + 2
    · rw [if_pos h2, if_pos (Or.inl h2)]
    · rw [if_neg h2]
      show va_up (α := Nat → Option Nat) _ (mn M) _ a k = _
      rw [vu, if_neg h]
      show va_up (α := Nat → Option Nat) _ (mn M + 1) _ a k = _
      rw [vu]
      by_cases h1 : a = mn M + 1
      · rw [if_pos h1, if_pos (Or.inr h1)]
      · rw [if_neg h1, if_neg (by omega)]
        show va_up (α := Nat → Option Nat) _ (mn M) _ a k = _
        rw [vu, if_neg h]
theorem nok_n {n : Nat} (h : n ≤ 60000000) : nok (nI n) := ⟨by rw [show (0 : Int32) = nI 0 from rfl, nltI (by omega) (by omega)]; omega, by rw [nclampI (by omega)]; exact h⟩
theorem c_init9 {M : Mem} {c u : Nat} (hc : c ≤ 12) (hu : u ≤ 800) : f_X9_init (nO M 9 5) (mn M) (nI c) (nI u) = some (KPT M c u) := by
  unfold f_X9_init
  rw [show (6 : Int32) = nI 6 from rfl, nmul, grd_y (nok_n (by omega)), nclampI (by omega)]
  simp only [bv]
  have h1 : okO (nA (nO M 9 5) 14 (c * 6)) 9 (mn M) := by
    refine ⟨by show _ < mn M + 1 + 1; omega, ?_⟩
    show va_up (va_up (mK M) (mn M) 9) (mn M + 1) 14 (mn M) = 9
    rw [vu, if_neg (by omega), vu, if_pos rfl]
  rw [grd_y h1, grd_y (nok_n (by omega)), nclampI (by omega)]
  rfl
theorem cpI_I {M : Mem} {a0 b n a : Nat} (hn : n < 2147483648) : mI (cpI M a0 0 b 0 (nI n)) a = if a = b then (fun k => if k < n then mI M a0 k else mI M b k) else mI M a := by
  show va_up (mI M) b (va_cpy (mI M a0) (mI M b) (0 : Int32).toNatClampNeg (0 : Int32).toNatClampNeg (nI n).toNatClampNeg) a = _
  have c0 : (0 : Int32).toNatClampNeg = 0 := by decide
  rw [vu, c0, nclampI hn]
  by_cases h : a = b
  · rw [if_pos h, if_pos h]
    funext k
    unfold va_cpy
    by_cases q : k < n
    · rw [if_pos (by omega), if_pos q]
      congr 1
      omega
    · rw [if_neg (by omega), if_neg q]
  · rw [if_neg h, if_neg h]
theorem cpok_n {n len : Nat} (hn : n ≤ len) (hl : len < 2147483648) : cpok 0 (nI n) len := ⟨by decide, by rw [show (0 : Int32) = nI 0 from rfl, nltI (by omega) (by omega)]; omega, by rw [nclampI (by omega), show (0 : Int32).toNatClampNeg = 0 by decide]; omega⟩
