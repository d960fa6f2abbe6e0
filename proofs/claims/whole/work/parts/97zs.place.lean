/-! places of DISHES -/
noncomputable def plB (p0 : Int32) : Int32 × Int32 × Int32 × Int32 × Int32 × Int32 × Int32 → Option ((Int32 × Int32 × Int32 × Int32 × Int32 × Int32 × Int32) ⊕ (Int32 × Int32)) := (fun s1 => if 5 ≤ s1.2.2.2.2.2.2 then (some (.inr (s1.1, s1.2.2.1))) else (grd (¬ s1.2.2.2.2.1 = 0) (bv (ir (p0 / s1.2.2.2.2.1) 10 : Int32) (fun x10 => bv (s1.2.2.2.2.1 / 10 : Int32) (fun x11 => bv (fun (s13 : Int32) => bv (fun (s17 : Int32 × Int32 × Int32 × Int32) => bv (s1.2.2.2.2.2.2 + 1 : Int32) (fun x20 => some (.inl (s17.1, s17.2.1, s17.2.2.1, s17.2.2.2, x11, s13, x20)))) (fun j16 => if s13 = 0 then (j16 (s1.1, s1.2.1, s1.2.2.1, s1.2.2.2.1)) else (bv (s1.2.1 + s1.2.2.2.1 : Int32) (fun x21 => bv (s1.2.2.2.1 * 6 : Int32) (fun x22 => bv (((6 * s1.2.2.1) + x10) - 1 : Int32) (fun x23 => j16 (x21, x21, x23, x22))))))) (fun j12 => bv (fun (s25 : Unit) => j12 1) (fun j24 => if s1.2.2.2.2.2.1 = 0 then (if x10 ≤ 0 then (j12 0) else (j24 ())) else (j24 ()))))))))
theorem placeOf_eq {p0 : Int32} : f_X12_placeOf p0 = Option.bind (loopO (plB p0) (0, 0, 0, 1, 10000, 0, 0)) (fun (x7 : Int32 × Int32) => some (x7.1 + x7.2)) := rfl
def dgO (o : Option Nat) : Nat := match o with
  | some d => d + 1
  | none => 0
theorem nr_dig : ∀ (r : List Nat) (j : Nat), (∀ d ∈ r, d < 6) → nr r / 10 ^ j % 10 = dgO r[j]?
  | [], j, _ => by
    show 0 / 10 ^ j % 10 = 0
    rw [Nat.zero_div]
  | d :: r, 0, h => by
    have := h d List.mem_cons_self
    show (10 * nr r + (d + 1)) / 10 ^ 0 % 10 = d + 1
    rw [Nat.pow_zero, Nat.div_one]
    omega
  | d :: r, j + 1, h => by
    have hd := h d List.mem_cons_self
    have ih := nr_dig r j (fun x hx => h x (List.mem_cons_of_mem _ hx))
    rw [List.getElem?_cons_succ, ← ih, Nat.pow_succ, Nat.mul_comm (10 ^ j) 10, ← Nat.div_div_eq_div_mul]
    show (10 * nr r + (d + 1)) / 10 / 10 ^ j % 10 = _
    rw [show (10 * nr r + (d + 1)) / 10 = nr r by omega]
theorem num_dig {l : List Nat} (hl : DL l) {k : Nat} (hk : k < 5) : num l / 10 ^ (4 - k) % 10 = if k < 5 - l.length then 0 else dgO l[k - (5 - l.length)]? := by
  have h5 := hl.1
  unfold num
  rw [nr_dig _ _ hl.rev.2]
  by_cases w : k < 5 - l.length
  · rw [if_pos w, List.getElem?_eq_none (by rw [List.length_reverse]; omega)]
    rfl
  · rw [if_neg w, List.getElem?_reverse (by omega), show l.length - 1 - (4 - k) = k - (5 - l.length) by omega]
def vpx (l : List Nat) (t : Nat) : Nat := vr (l.take t).reverse
theorem vpx_succ {l : List Nat} {t : Nat} {d : Nat} (h : l[t]? = some d) : vpx l (t + 1) = 6 * vpx l t + d := by
  unfold vpx
  rw [List.take_succ, h]
  show vr (List.take t l ++ [d]).reverse = _
  rw [List.reverse_append]
  rfl
theorem vpx_lt {l : List Nat} (hl : DL l) (t : Nat) : vpx l t < 7776 := by
  have : DD (l.take t).reverse := ⟨by rw [List.length_reverse, List.length_take]; have := hl.1; omega, fun d hd => hl.2 d (List.mem_of_mem_take (List.mem_reverse.mp hd))⟩
  exact this.vr
theorem p_placeOf {l : List Nat} (hl : DL l) : f_X12_placeOf (nI (num l)) = some (nI (rank l)) := by
  have h5 := hl.1
  have hn := num_le hl
  have key : TT (loopO (plB (nI (num l))) (nI (stN 0), nI (stN 0), nI (vpx l 0), nI (6 ^ 0), nI (10 ^ 4), b1 (decide (0 < 0)), nI 0)) (fun z => z = (nI (stN l.length), nI (vpx l l.length))) := by
    refine TT_for 5 (fun k s => ∃ t, (t = if k < 5 - l.length then 0 else k - (5 - l.length)) ∧ s = (nI (stN t), nI (stN t), nI (vpx l t), nI (6 ^ t), nI (10 ^ 4 / 10 ^ k), b1 (decide (0 < t)), nI k)) ?_ (Nat.zero_le _) ⟨0, by split <;> omega, rfl⟩
    rintro k s hk ⟨t, ht, rfl⟩
    unfold plB
    simp only [bv]
    by_cases w : k < 5
    · have hp : 10 ^ 4 / 10 ^ k = 10 ^ (4 - k) := by
        rw [Nat.pow_div (by omega) (by omega)]
      have hpos : 0 < 10 ^ (4 - k) := Nat.pow_pos (by omega)
      have hple : 10 ^ (4 - k) ≤ 10 ^ 4 := Nat.pow_le_pow_right (by omega) (by omega)
      have hnx : 10 ^ (4 - k) / 10 = 10 ^ 4 / 10 ^ (k + 1) := by
        rw [← hp, Nat.div_div_eq_div_mul, ← Nat.pow_succ]
      have hdig := num_dig hl w
      rw [if_neg (fun q => by rw [show (5 : Int32) = nI 5 from rfl] at q; have := (nleI (by omega) (by omega)).mp q; omega), hp, grd_y (fun q => by rw [show (0 : Int32) = nI 0 from rfl] at q; have := (neqI (by omega) (by omega)).mp q; omega), ndiv (by omega) (by omega) hpos, show (10 : Int32) = nI 10 from rfl, nrem (by have := Nat.div_le_self (num l) (10 ^ (4 - k)); omega) (by omega) (by omega), hdig, ndiv (by omega) (by omega) (by omega), hnx, nsucc]
      have ht5 : t ≤ 5 := by
        rw [ht]
        split <;> omega
      by_cases w1 : k < 5 - l.length
      · rw [if_pos w1] at ht
        subst ht
        rw [if_pos w1, if_pos (show b1 (decide (0 < 0)) = 0 from rfl), if_pos (show nI 0 ≤ 0 from by decide), if_pos trivial, TT_some]
        refine ⟨w, 0, ?_, rfl⟩
        by_cases w2 : k + 1 < 5 - l.length
        · rw [if_pos w2]
        · rw [if_neg w2]
          omega
      · rw [if_neg w1] at ht
        subst ht
        have hlt : k - (5 - l.length) < l.length := by omega
        have ed := List.getElem?_eq_getElem hlt
        have hd6 := hl.2 _ (List.getElem_mem hlt)
        have hs6 : stN (k - (5 - l.length)) ≤ stN 6 := stN_mono (by omega) (by omega)
        have h66 : stN 6 = 9331 := rfl
        have p6 := pw6 (n := k - (5 - l.length)) (by omega)
        have hp6 : 6 ^ (k - (5 - l.length)) ≤ 6 ^ 5 := Nat.pow_le_pow_right (by omega) (by omega)
        have hv := vpx_lt hl (k - (5 - l.length))
        rw [if_neg w1, ed, show dgO (some l[k - (5 - l.length)]) = l[k - (5 - l.length)] + 1 from rfl]
        have go : TT (if (1 : Int32) = 0 then some (Sum.inl (nI (stN (k - (5 - l.length))), nI (stN (k - (5 - l.length))), nI (vpx l (k - (5 - l.length))), nI (6 ^ (k - (5 - l.length))), nI (10 ^ 4 / 10 ^ (k + 1)), (1 : Int32), nI (k + 1))) else some (Sum.inl (nI (stN (k - (5 - l.length))) + nI (6 ^ (k - (5 - l.length))), nI (stN (k - (5 - l.length))) + nI (6 ^ (k - (5 - l.length))), 6 * nI (vpx l (k - (5 - l.length))) + nI (l[k - (5 - l.length)] + 1) - 1, nI (6 ^ (k - (5 - l.length))) * 6, nI (10 ^ 4 / 10 ^ (k + 1)), (1 : Int32), nI (k + 1)))) (fun (r : (Int32 × Int32 × Int32 × Int32 × Int32 × Int32 × Int32) ⊕ (Int32 × Int32)) => r.elim (fun s' => k < 5 ∧ ∃ t, (t = if k + 1 < 5 - l.length then 0 else k + 1 - (5 - l.length)) ∧ s' = (nI (stN t), nI (stN t), nI (vpx l t), nI (6 ^ t), nI (10 ^ 4 / 10 ^ (k + 1)), b1 (decide (0 < t)), nI (k + 1))) (fun z => z = (nI (stN l.length), nI (vpx l l.length)))) := by
          rw [if_neg (by decide), TT_some]
          refine ⟨w, k - (5 - l.length) + 1, by rw [if_neg (by omega)]; omega, ?_⟩
          show (_, _, _, _, _, _, _) = (_, _, _, _, _, _, _)
          rw [nadd, p6, show (6 : Int32) = nI 6 from rfl, nmul, nadd, show (1 : Int32) = nI 1 from rfl, nsub (by omega), nmul, vpx_succ ed, ← Nat.pow_succ, show b1 (decide (0 < k - (5 - l.length) + 1)) = nI 1 from by rw [show decide (0 < k - (5 - l.length) + 1) = true from decide_eq_true (by omega)]; rfl]
          rfl
        by_cases w0 : 0 < k - (5 - l.length)
        · rw [show decide (0 < k - (5 - l.length)) = true from decide_eq_true w0, if_neg (show ¬ b1 true = 0 by decide)]
          exact go
        · rw [show decide (0 < k - (5 - l.length)) = false from decide_eq_false w0, if_pos (show b1 false = 0 from rfl), if_neg (fun q => by rw [show (0 : Int32) = nI 0 from rfl] at q; have := (nleI (by omega) (by omega)).mp q; omega)]
          exact go
    · have ek : k = 5 := by omega
      subst ek
      rw [if_neg (by omega), show 5 - (5 - l.length) = l.length by omega] at ht
      subst ht
      rw [if_pos (show (5 : Int32) ≤ nI 5 by decide), TT_some]
      rfl
  obtain ⟨z, e, hz⟩ := key
  rw [placeOf_eq, show ((0 : Int32), (0 : Int32), (0 : Int32), (1 : Int32), (10000 : Int32), (0 : Int32), (0 : Int32)) = (nI (stN 0), nI (stN 0), nI (vpx l 0), nI (6 ^ 0), nI (10 ^ 4), b1 (decide (0 < 0)), nI 0) from rfl, e, Option.bind_some, hz]
  show some (nI (stN l.length) + nI (vpx l l.length)) = _
  rw [nadd]
  unfold rank rk vpx
  rw [List.length_reverse, List.take_length]
/-- every rank is a DISH's -/
theorem vr_onto : ∀ n v, v < 6 ^ n → ∃ r : List Nat, r.length = n ∧ (∀ d ∈ r, d < 6) ∧ vr r = v
  | 0, v, h => ⟨[], rfl, fun d hd => (by cases hd), by
    have : v = 0 := by
      rw [Nat.pow_zero] at h
      omega
    rw [this]
    rfl⟩
  | n + 1, v, h => by
    rw [Nat.pow_succ] at h
    obtain ⟨r, h1, h2, h3⟩ := vr_onto n (v / 6) (by omega)
    refine ⟨(v % 6) :: r, by rw [List.length_cons, h1], fun d hd => ?_, ?_⟩
    · rcases List.mem_cons.mp hd with q | q
      · omega
      · exact h2 d q
    · show 6 * vr r + v % 6 = v
      omega
theorem rank_onto {p : Nat} (h : p < 9331) : ∃ l, DL l ∧ rank l = p := by
  have mk : ∀ n, n ≤ 5 → stN n ≤ p → p < stN (n + 1) → ∃ l, DL l ∧ rank l = p := by
    intro n hn h1 h2
    have hp := pw6 hn
    obtain ⟨r, r1, r2, r3⟩ := vr_onto n (p - stN n) (by omega)
    refine ⟨r.reverse, ⟨by rw [List.length_reverse, r1]; exact hn, fun d hd => r2 d (List.mem_reverse.mp hd)⟩, ?_⟩
    unfold rank rk
    rw [List.reverse_reverse, r1, r3]
    omega
  have e1 : stN 0 = 0 := rfl
  have e2 : stN 1 = 1 := rfl
  have e3 : stN 2 = 7 := rfl
  have e4 : stN 3 = 43 := rfl
  have e5 : stN 4 = 259 := rfl
  have e6 : stN 5 = 1555 := rfl
  have e7 : stN 6 = 9331 := rfl
  by_cases w0 : p < 1
  · exact mk 0 (by omega) (by omega) (show p < 1 by omega)
  · by_cases w1 : p < 7
    · exact mk 1 (by omega) (by omega) (show p < 7 by omega)
    · by_cases w2 : p < 43
      · exact mk 2 (by omega) (by omega) (show p < 43 by omega)
      · by_cases w3 : p < 259
        · exact mk 3 (by omega) (by omega) (show p < 259 by omega)
        · by_cases w4 : p < 1555
          · exact mk 4 (by omega) (by omega) (show p < 1555 by omega)
          · exact mk 5 (by omega) (by omega) (show p < 9331 by omega)
