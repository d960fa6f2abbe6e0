/-! chances, as numbers -/
theorem dR_ex (p : Nat) : ∃ l, p < 9331 → DL l ∧ rank l = p := by
  by_cases h : p < 9331
  · obtain ⟨l, h1⟩ := rank_onto h
    exact ⟨l, fun _ => h1⟩
  · exact ⟨[], fun q => absurd q h⟩
noncomputable def dR (p : Nat) : List Nat := Classical.choose (dR_ex p)
theorem dR_v {p : Nat} (h : p < 9331) : DL (dR p) ∧ rank (dR p) = p := Classical.choose_spec (dR_ex p) h
theorem dR_at {p : Nat} (h : p < 9331) : f_X12_dishAt (nI p) = some (nI (num (dR p))) := by
  obtain ⟨h1, h2⟩ := dR_v h
  have := p_dishAt h1.rev
  rw [show rk (dR p).reverse = p from h2] at this
  exact this
def put1 (T : Nat → Nat) (r v : Nat) : Nat → Nat := fun x => if x = r then T x + v else T x
def hndL (q S : Nat) : List (List Nat × Nat) → (Nat → Nat) → Nat → Nat
  | [], T => T
  | c :: L, T => hndL q S L (put1 T (rank c.1) (q * c.2 / S))
noncomputable def hnd (K : Nat → Int32) (y : Nat) (Q : Nat → Nat) (p : Nat) (T : Nat → Nat) : Nat → Nat := if Q p = 0 then T else if sumW (EDG K y (dR p)) = 0 then put1 T p (Q p) else hndL (Q p) (sumW (EDG K y (dR p))) (EDG K y (dR p)) T
noncomputable def nxtK (K : Nat → Int32) (y : Nat) (Q : Nat → Nat) : Nat → Nat → Nat
  | 0 => fun _ => 0
  | k + 1 => hnd K y Q k (nxtK K y Q k)
noncomputable def PRT (K : Nat → Int32) (y : Nat) (l : List Nat) : Nat → Nat → Nat
  | 0 => put1 (fun _ => 0) (rank l) 1000000000000
  | n + 1 => nxtK K y (PRT K y l n) 9331
def sumN (T : Nat → Nat) : Nat → Nat
  | 0 => 0
  | n + 1 => sumN T n + T n
theorem sumN_put {T : Nat → Nat} {r v : Nat} : ∀ n, sumN (put1 T r v) n = sumN T n + (if r < n then v else 0)
  | 0 => by
    rw [if_neg (by omega)]
    rfl
  | n + 1 => by
    rw [sumN, sumN_put n, sumN]
    unfold put1
    by_cases w : n = r
    · subst w
      rw [if_neg (by omega), if_pos rfl, if_pos (by omega)]
      omega
    · rw [if_neg w]
      by_cases w2 : r < n
      · rw [if_pos w2, if_pos (by omega)]
        omega
      · rw [if_neg w2, if_neg (by omega)]
        omega
theorem sumN_ge {T : Nat → Nat} {r : Nat} : ∀ n, r < n → T r ≤ sumN T n
  | 0, h => by omega
  | n + 1, h => by
    rw [sumN]
    by_cases w : r = n
    · rw [w]
      omega
    · have := sumN_ge (T := T) n (show r < n by omega)
      omega
theorem sumN_mono {T : Nat → Nat} {a : Nat} : ∀ b, a ≤ b → sumN T a ≤ sumN T b
  | 0, h => by
    have : a = 0 := by omega
    rw [this]
    exact Nat.le_refl _
  | b + 1, h => by
    by_cases w : a = b + 1
    · rw [w]
      exact Nat.le_refl _
    · have := sumN_mono (T := T) b (show a ≤ b by omega)
      rw [sumN]
      omega
theorem sumN_zero : ∀ n, sumN (fun _ => 0) n = 0
  | 0 => rfl
  | n + 1 => by
    rw [sumN, sumN_zero n]
def flS (q S : Nat) (L : List (List Nat × Nat)) : Nat := (L.map (fun c => q * c.2 / S)).sum
theorem flS_le {q S : Nat} : ∀ L : List (List Nat × Nat), S * flS q S L ≤ q * sumW L
  | [] => by
    show S * 0 ≤ q * 0
    omega
  | c :: L => by
    have ih := flS_le (q := q) (S := S) L
    unfold flS sumW at *
    rw [List.map_cons, List.sum_cons, List.map_cons, List.sum_cons, Nat.mul_add, Nat.mul_add]
    have := Nat.mul_div_le (q * c.2) S
    omega
theorem flS_q {q : Nat} {L : List (List Nat × Nat)} (h : 0 < sumW L) : flS q (sumW L) L ≤ q := by
  have := flS_le (q := q) (S := sumW L) L
  rw [Nat.mul_comm q] at this
  exact Nat.le_of_mul_le_mul_left this h
theorem hndL_sum {q S N : Nat} : ∀ (L : List (List Nat × Nat)) (T : Nat → Nat), (∀ c ∈ L, rank c.1 < N) → sumN (hndL q S L T) N = sumN T N + flS q S L
  | [], T, _ => rfl
  | c :: L, T, h => by
    rw [hndL, hndL_sum L _ (fun x hx => h x (List.mem_cons_of_mem _ hx)), sumN_put, if_pos (h c List.mem_cons_self)]
    unfold flS
    rw [List.map_cons, List.sum_cons]
    omega
theorem hnd_sum {K : Nat → Int32} (hk : KTH K) {y : Nat} {Q T : Nat → Nat} {p : Nat} (hp : p < 9331) : sumN (hnd K y Q p T) 9331 ≤ sumN T 9331 + Q p := by
  unfold hnd
  by_cases w : Q p = 0
  · rw [if_pos w]
    omega
  · rw [if_neg w]
    by_cases w2 : sumW (EDG K y (dR p)) = 0
    · rw [if_pos w2, sumN_put, if_pos hp]
      omega
    · rw [if_neg w2, hndL_sum _ _ (fun c hc => rank_lt (EDG_DL hk (dR_v hp).1 hc).1)]
      have := flS_q (q := Q p) (L := EDG K y (dR p)) (by omega)
      omega
theorem nxtK_sum {K : Nat → Int32} (hk : KTH K) {y : Nat} {Q : Nat → Nat} : ∀ k, k ≤ 9331 → sumN (nxtK K y Q k) 9331 ≤ sumN Q k
  | 0, _ => by
    show sumN (fun _ => 0) 9331 ≤ 0
    rw [sumN_zero]
    exact Nat.le_refl _
  | k + 1, h => by
    have ih := nxtK_sum hk (y := y) (Q := Q) k (by omega)
    have := hnd_sum hk (y := y) (Q := Q) (T := nxtK K y Q k) (p := k) (by omega)
    have e1 : sumN Q (k + 1) = sumN Q k + Q k := rfl
    have e2 : nxtK K y Q (k + 1) = hnd K y Q k (nxtK K y Q k) := rfl
    rw [e1, e2]
    omega
theorem PRT_sum {K : Nat → Int32} (hk : KTH K) {y : Nat} {l : List Nat} (hl : DL l) : ∀ n, sumN (PRT K y l n) 9331 ≤ 1000000000000
  | 0 => by
    rw [PRT, sumN_put, sumN_zero, if_pos (rank_lt hl)]
    omega
  | n + 1 => by
    have := nxtK_sum hk (y := y) (Q := PRT K y l n) 9331 (Nat.le_refl _)
    have ih := PRT_sum hk (y := y) hl n
    rw [PRT]
    omega
theorem hndL_split {q S : Nat} : ∀ (L : List (List Nat × Nat)) (T : Nat → Nat) (k : Nat) (c : List Nat × Nat), L[k]? = some c → hndL q S (L.take (k + 1)) T = put1 (hndL q S (L.take k) T) (rank c.1) (q * c.2 / S)
  | [], T, k, c, h => by cases h
  | d :: L, T, 0, c, h => by
    cases h
    rfl
  | d :: L, T, k + 1, c, h => by
    rw [List.take_succ_cons, List.take_succ_cons, hndL, hndL]
    exact hndL_split L _ k c h
theorem jjN_div {a b : Nat} (ha : a < 9223372036854775808) (hb : b < 9223372036854775808) : jj (a : Int) / jj (b : Int) = jj ((a / b : Nat) : Int) := by
  have hd : a / b ≤ a := Nat.div_le_self a b
  apply Int64.toInt_inj.mp
  have hr : R64 ((a / b : Nat) : Int) := by
    generalize a / b = d at hd
    exact ⟨by omega, by omega⟩
  rw [Int64.toInt_div, jj_toInt ⟨by omega, by omega⟩, jj_toInt ⟨by omega, by omega⟩, jj_toInt hr]
  rw [show ((a : Int).tdiv (b : Int)) = ((a / b : Nat) : Int) from rfl]
  exact Int.bmod_eq_of_le (by have := hr.1; simpa using this) (by have := hr.2; simpa using this)
theorem nI_j {n : Nat} (h : n < 2147483648) : (nI n).toInt64 = jj (n : Int) := by
  rw [jj_i, nI_tI h]
/-- one hand-on, in longs -/
theorem jj_hand {t q w S : Nat} (hq : q ≤ 1000000000000) (hw : w ≤ 99) (hS : S < 2147483648) : jj (t : Int) + jj (q : Int) * (nI w).toInt64 / (nI S).toInt64 = jj ((t + q * w / S : Nat) : Int) := by
  have h1 : q * w ≤ 1000000000000 * 99 := Nat.mul_le_mul hq hw
  rw [nI_j (by omega), nI_j hS, jj_mul, show (q : Int) * (w : Int) = ((q * w : Nat) : Int) from by simp, jjN_div (by omega) (by omega), jj_add]
  congr 1
