/-! NATURAL NUMBERS as ints -/
theorem nlit (n : Nat) : (OfNat.ofNat n : Int32) = nI n := rfl
theorem nadd (a b : Nat) : nI a + nI b = nI (a + b) := by simp [nI]
theorem nmul (a b : Nat) : nI a * nI b = nI (a * b) := by simp [nI]
theorem nsub {a b : Nat} (h : b ≤ a) : nI a - nI b = nI (a - b) := by simp [nI, Int32.ofNat_sub, h]
theorem R32_n {a : Nat} (h : a < 2147483648) : R32 (a : Int) := ⟨by omega, by omega⟩
theorem ndiv {a b : Nat} (ha : a < 2147483648) (hb : b < 2147483648) (hp : 0 < b) : nI a / nI b = nI (a / b) := by
  rw [nI_ii, nI_ii, nI_ii, ii_div (R32_n ha) (R32_n hb) (by omega), Int.tdiv_eq_ediv_of_nonneg (by omega)]
  simp
theorem nrem {a b : Nat} (ha : a < 2147483648) (hb : b < 2147483648) (hp : 0 < b) : ir (nI a) (nI b) = nI (a % b) := by
  rw [nI_ii, nI_ii, nI_ii, ii_rem (R32_n ha) (R32_n hb) (by omega), Int.tmod_eq_emod_of_nonneg (by omega)]
  simp
theorem nltI {a b : Nat} (ha : a < 2147483648) (hb : b < 2147483648) : (nI a < nI b) ↔ a < b := by
  rw [nI_ii, nI_ii, ii_lt (R32_n ha) (R32_n hb)]
  omega
theorem nleI {a b : Nat} (ha : a < 2147483648) (hb : b < 2147483648) : (nI a ≤ nI b) ↔ a ≤ b := by
  rw [nI_ii, nI_ii, ii_le (R32_n ha) (R32_n hb)]
  omega
theorem neqI {a b : Nat} (ha : a < 2147483648) (hb : b < 2147483648) : (nI a = nI b) ↔ a = b := by
  rw [nI_ii, nI_ii, ii_inj (R32_n ha) (R32_n hb)]
  omega
theorem nclampI {a : Nat} (ha : a < 2147483648) : (nI a).toNatClampNeg = a := nI_clamp (by omega)
theorem nvp {a n : Nat} (ha : a < 2147483648) : vp_in (nI a) n ↔ a < n := by
  rw [nI_ii, vp_in_ii (R32_n ha)]
  omega
theorem nne_m1 {a : Nat} (ha : a < 2147483648) : ¬ nI a = -1 := by
  rw [nI_ii, ii_neg1, ii_inj (R32_n ha) ⟨by omega, by omega⟩]
  omega
/-! DISHES: the pinches from the right -/
def nr : List Nat → Nat
  | [] => 0
  | d :: r => 10 * nr r + (d + 1)
def vr : List Nat → Nat
  | [] => 0
  | d :: r => 6 * vr r + d
def stN : Nat → Nat
  | 0 => 0
  | 1 => 1
  | 2 => 7
  | 3 => 43
  | 4 => 259
  | 5 => 1555
  | _ => 9331
def rk (r : List Nat) : Nat := stN r.length + vr r
def DD (r : List Nat) : Prop := r.length ≤ 5 ∧ ∀ d ∈ r, d < 6
theorem vr_lt : ∀ r : List Nat, (∀ d ∈ r, d < 6) → vr r < 6 ^ r.length
  | [], _ => by decide
  | d :: r, h => by
    have h1 := vr_lt r (fun x hx => h x (List.mem_cons_of_mem _ hx))
    have h2 := h d List.mem_cons_self
    rw [vr, List.length_cons, Nat.pow_succ]
    omega
theorem nr_lt : ∀ r : List Nat, (∀ d ∈ r, d < 6) → 9 * nr r ≤ 6 * (10 ^ r.length - 1)
  | [], _ => by decide
  | d :: r, h => by
    have h1 := nr_lt r (fun x hx => h x (List.mem_cons_of_mem _ hx))
    have h2 := h d List.mem_cons_self
    have h3 : 0 < 10 ^ r.length := Nat.pow_pos (by decide)
    rw [nr, List.length_cons, Nat.pow_succ]
    omega
theorem nr_ge : ∀ r : List Nat, r ≠ [] → 10 ^ (r.length - 1) ≤ nr r
  | [], h => absurd rfl h
  | [d], _ => by
    show 1 ≤ 10 * 0 + (d + 1)
    omega
  | d :: e :: r, _ => by
    have h1 := nr_ge (e :: r) (by simp)
    rw [nr]
    have h2 : (d :: e :: r).length - 1 = ((e :: r).length - 1) + 1 := by simp
    rw [h2, Nat.pow_succ]
    omega
theorem pw6 {n : Nat} (h : n ≤ 5) : stN n + 6 ^ n = stN (n + 1) := by
  match n, h with
  | 0, _ => rfl
  | 1, _ => rfl
  | 2, _ => rfl
  | 3, _ => rfl
  | 4, _ => rfl
  | 5, _ => rfl
theorem DD.nr {r : List Nat} (h : DD r) : nr r ≤ 66666 := by
  have h1 := nr_lt r h.2
  have h2 : 10 ^ r.length ≤ 10 ^ 5 := Nat.pow_le_pow_right (by decide) h.1
  omega
theorem DD.vr {r : List Nat} (h : DD r) : vr r < 7776 := by
  have h1 := vr_lt r h.2
  have h2 : 6 ^ r.length ≤ 6 ^ 5 := Nat.pow_le_pow_right (by decide) h.1
  omega
theorem DD.rk {r : List Nat} (h : DD r) : rk r < 9331 := by
  have h1 := vr_lt r h.2
  have h2 := pw6 h.1
  have h3 : stN (r.length + 1) ≤ 9331 := by
    have := h.1
    match r.length, this with
    | 0, _ => decide
    | 1, _ => decide
    | 2, _ => decide
    | 3, _ => decide
    | 4, _ => decide
    | 5, _ => decide
  unfold _root_.Jvm.Pilot.CDishLinesLaw_law_r4136_b07d86.rk
  omega
theorem DD.tl {d : Nat} {r : List Nat} (h : DD (d :: r)) : DD r ∧ d < 6 := ⟨⟨by have := h.1; simp at this; omega, fun x hx => h.2 x (List.mem_cons_of_mem _ hx)⟩, h.2 d List.mem_cons_self⟩
theorem stV_n {k : Nat} (h : k ≤ 6) : stV (nI k).toNatClampNeg = nI (stN k) := by
  rw [nclampI (by omega)]
  match k, h with
  | 0, _ => rfl
  | 1, _ => rfl
  | 2, _ => rfl
  | 3, _ => rfl
  | 4, _ => rfl
  | 5, _ => rfl
  | 6, _ => rfl
theorem pwV_n {k : Nat} (h : k ≤ 5) : pwV (nI k).toNatClampNeg = nI (6 ^ k) := by
  rw [nclampI (by omega)]
  match k, h with
  | 0, _ => rfl
  | 1, _ => rfl
  | 2, _ => rfl
  | 3, _ => rfl
  | 4, _ => rfl
  | 5, _ => rfl
theorem TT.is {α : Type} {t : Option α} {v : α} (h : TT t (fun x => x = v)) : t = some v := by
  obtain ⟨x, hx, rfl⟩ := h
  exact hx
theorem nr_div {d : Nat} {t : List Nat} (h : d < 6) : nr (d :: t) / 10 = nr t ∧ nr (d :: t) % 10 = d + 1 ∧ 0 < nr (d :: t) ∧ nr t < nr (d :: t) := by
  have e1 : nr (d :: t) = 10 * nr t + (d + 1) := rfl
  omega
theorem vr_div {d : Nat} {t : List Nat} (h : d < 6) : vr (d :: t) / 6 = vr t ∧ vr (d :: t) % 6 = d := by
  have e1 : vr (d :: t) = 6 * vr t + d := rfl
  omega
theorem nr_zero {t : List Nat} (h : nr t = 0) : t = [] := by
  cases t with
  | nil => rfl
  | cons d t =>
    have e1 : nr (d :: t) = 10 * nr t + (d + 1) := rfl
    omega
/-! how long, how many -/
theorem p_longOf {r : List Nat} (h : DD r) : f_X12_longOf (nI (nr r)) = some (nI r.length) := by
  apply TT.is
  unfold f_X12_longOf
  rw [TT_bind]
  have hr := h.nr
  refine TT_loop (fun s => ∃ (t : List Nat) (n : Nat), s = (nI n, nI (nr t)) ∧ (∀ d ∈ t, d < 6) ∧ nr t ≤ 66666 ∧ n ≤ 5 ∧ n + t.length = r.length) (fun s => s.2.toNatClampNeg) ?_ _ ⟨r, 0, rfl, h.2, hr, by omega, by omega⟩
  rintro _ ⟨t, n, rfl, h6, hn, h5, hl⟩
  have h5' := h.1
  cases t with
  | nil => exact ⟨_, rfl, by simp only [List.length_nil] at hl; show TT (some _) _; rw [TT_some, ← hl]; rfl⟩
  | cons d t =>
    obtain ⟨e1, e2, e3, e4⟩ := nr_div (t := t) (h6 d List.mem_cons_self)
    simp only [List.length_cons] at hl
    simp (disch := omega) only [nlit, nleI, nadd, ndiv, bv, e1]
    rw [if_neg (by omega), TT_some]
    refine ⟨⟨t, n + 1, rfl, fun x hx => h6 x (List.mem_cons_of_mem _ hx), by omega, by omega, by omega⟩, ?_⟩
    rw [nclampI (by omega), nclampI (by omega)]
    exact e4
theorem p_has {r : List Nat} (h : DD r) {a t0 : Nat} (ht : t0 < 6) : f_X12_has a (nI (nr r)) (nI t0) = some (nI (r.count t0)) := by
  apply TT.is
  unfold f_X12_has
  rw [TT_bind]
  have hr := h.nr
  refine TT_loop (fun s => ∃ (t : List Nat) (n : Nat), s = (nI n, nI (nr t)) ∧ (∀ d ∈ t, d < 6) ∧ nr t ≤ 66666 ∧ n + t.count t0 = r.count t0) (fun s => s.2.toNatClampNeg) ?_ _ ⟨r, 0, rfl, h.2, hr, by omega⟩
  rintro _ ⟨t, n, rfl, h6, hn, hl⟩
  have hc : r.count t0 ≤ 5 := Nat.le_trans List.count_le_length h.1
  cases t with
  | nil => exact ⟨_, rfl, by simp only [List.count_nil] at hl; show TT (some _) _; rw [TT_some, ← hl]; rfl⟩
  | cons d t =>
    obtain ⟨e1, e2, e3, e4⟩ := nr_div (t := t) (h6 d List.mem_cons_self)
    simp only [List.count_cons] at hl
    simp (disch := omega) only [nlit, nleI, nadd, ndiv, nrem, bv, e1, e2, neqI]
    rw [if_neg (by omega)]
    by_cases hd : d = t0
    · subst hd
      simp only [beq_self_eq_true, if_true] at hl
      rw [if_pos rfl, TT_some]
      refine ⟨⟨t, n + 1, rfl, fun x hx => h6 x (List.mem_cons_of_mem _ hx), by omega, by omega⟩, ?_⟩
      rw [nclampI (by omega), nclampI (by omega)]
      exact e4
    · rw [if_neg (by omega), TT_some]
      have hb : (d == t0) = false := by simp [hd]
      rw [hb] at hl
      refine ⟨⟨t, n + 0, rfl, fun x hx => h6 x (List.mem_cons_of_mem _ hx), by omega, by simpa using hl⟩, ?_⟩
      rw [nclampI (by omega), nclampI (by omega)]
      exact e4
theorem npred {k : Nat} (h : 1 ≤ k) : nI k + -nI 1 = nI (k - 1) := by rw [← nsub h, Int32.sub_eq_add_neg]
theorem stN_mono0 : ∀ b, b < 7 → ∀ a, a < b + 1 → stN a ≤ stN b := by decide
theorem stN_mono {a b : Nat} (h : a ≤ b) (hb : b ≤ 6) : stN a ≤ stN b := stN_mono0 b (by omega) a (by omega)
theorem p_lengthOf {r : List Nat} (h : DD r) : f_X6_lengthOf (nI (rk r)) = some (nI r.length) := by
  apply TT.is
  unfold f_X6_lengthOf
  rw [TT_bind]
  have hr := h.rk
  have h5 := h.1
  have hv := vr_lt r h.2
  have hp := pw6 h.1
  have e0 : rk r = stN r.length + vr r := rfl
  refine TT_loop (fun s => ∃ k : Nat, s = nI k ∧ r.length ≤ k ∧ k ≤ 5) (fun s => s.toNatClampNeg) ?_ _ ⟨5, rfl, h5, by omega⟩
  rintro _ ⟨k, rfl, h1, h2⟩
  have ht : stN k ≤ stN 6 := stN_mono (by omega) (by omega)
  have h66 : stN 6 = 9331 := rfl
  rw [stV_n (by omega)]
  simp (disch := omega) only [nlit, nleI, nvp]
  rw [TT_if]
  refine ⟨fun hk => ?_, fun hk => ?_⟩
  · rw [TT_some]
    show TT (some _) _
    rw [TT_some]
    congr 1
    omega
  rw [TT_grd]
  refine ⟨by omega, ?_⟩
  rw [TT_if]
  refine ⟨fun hk2 => ?_, fun hk2 => ?_⟩
  · rw [TT_some]
    show TT (some _) _
    rw [TT_some]
    congr 1
    by_cases hkk : r.length < k
    · have : stN (r.length + 1) ≤ stN k := stN_mono (by omega) (by omega)
      omega
    · omega
  · rw [TT_bv, TT_some]
    rw [npred (by omega)]
    have hk3 : r.length < k := by
      by_cases hkk : r.length < k
      · exact hkk
      · have : k = r.length := by omega
        subst this
        omega
    refine ⟨⟨k - 1, rfl, by omega, by omega⟩, ?_⟩
    rw [nclampI (by omega), nclampI (by omega)]
    omega
theorem p_numberOf {r : List Nat} (h : DD r) : f_X6_numberOf (nI (rk r)) = some (nI (nr r)) := by
  apply TT.is
  unfold f_X6_numberOf
  have hr := h.rk
  have h5 := h.1
  have hv := h.vr
  have hs : stN r.length ≤ stN 6 := stN_mono (by omega) (by omega)
  have h66 : stN 6 = 9331 := rfl
  have e0 : rk r = stN r.length + vr r := rfl
  simp (disch := omega) only [nlit, nleI, p_lengthOf h]
  rw [if_pos (by omega)]
  simp only [TT_bind, TT_some, TT_grd, TT_bv]
  rw [stV_n (by omega), nsub (by omega), nvp (by omega)]
  refine ⟨by omega, ?_⟩
  have e1 : rk r - stN r.length = vr r := by omega
  rw [e1]
  refine TT_loop (fun s => ∃ (t : List Nat) (n u i : Nat), s = (nI (vr t), nI n, nI u, nI i) ∧ DD t ∧ i + t.length = r.length ∧ n + u * nr t = nr r) (fun s => r.length - s.2.2.2.toNatClampNeg) ?_ _ ⟨r, 0, 1, 0, rfl, h, by omega, by omega⟩
  rintro _ ⟨t, n, u, i, rfl, ht, hi, hn⟩
  have htv := ht.vr
  cases t with
  | nil =>
    simp only [List.length_nil] at hi
    simp (disch := omega) only [nleI]
    rw [if_pos (by omega), TT_some]
    show nI n = nI (nr r)
    congr 1
  | cons d t =>
    obtain ⟨ht2, hd⟩ := ht.tl
    obtain ⟨e2, e3⟩ := vr_div (t := t) hd
    simp only [List.length_cons] at hi
    simp (disch := omega) only [nleI, nadd, nmul, ndiv, nrem, bv, e2, e3]
    rw [if_neg (by omega), TT_some]
    refine ⟨⟨t, n + (d + 1) * u, u * 10, i + 1, rfl, ht2, by omega, ?_⟩, ?_⟩
    · rw [← hn, show nr (d :: t) = 10 * nr t + (d + 1) from rfl, Nat.mul_add, ← Nat.mul_assoc, Nat.mul_comm u (d + 1)]
      omega
    · simp only
      rw [nclampI (by omega), nclampI (by omega)]
      omega
theorem p_numberOf_m1 : f_X6_numberOf (-1) = some (-1) := by
  unfold f_X6_numberOf
  rw [if_neg (by decide)]
theorem p_dishAt {r : List Nat} (h : DD r) : f_X12_dishAt (nI (rk r)) = some (nI (nr r)) := by
  apply TT.is
  unfold f_X12_dishAt
  have hr := h.rk
  have h5 := h.1
  have hv := h.vr
  have hv2 := vr_lt r h.2
  have h66 : stN 6 = 9331 := rfl
  have e0 : rk r = stN r.length + vr r := rfl
  rw [TT_bind]
  refine TT.mono (Q := fun x => x = (nI (vr r), nI r.length)) ?_ ?_
  · refine TT_loop (fun s => ∃ m : Nat, m ≤ r.length ∧ s = (nI (rk r - stN m), nI (6 ^ m), nI m)) (fun s => 5 - s.2.2.toNatClampNeg) ?_ _ ⟨0, by omega, rfl⟩
    rintro _ ⟨m, hm, rfl⟩
    have p1 := pw6 (n := m) (by omega)
    have p2 : stN m ≤ stN r.length := stN_mono hm (by omega)
    have p3 : stN (m + 1) ≤ stN 6 := stN_mono (by omega) (by omega)
    have p4 := pw6 h5
    simp (disch := omega) only [nlit, nltI, nsub, nmul, nadd]
    rw [TT_if]
    refine ⟨fun hk => ?_, fun hk => ?_⟩
    · have hml : m = r.length := by
        rcases Nat.lt_or_ge m r.length with q | q
        · have : stN (m + 1) ≤ stN r.length := stN_mono (by omega) (by omega)
          omega
        · omega
      subst hml
      rw [TT_some]
      show _ = _
      congr 1
      congr 1
      omega
    · have hml : m < r.length := by
        rcases Nat.lt_or_ge m r.length with q | q
        · exact q
        · have : m = r.length := by omega
          subst this
          omega
      rw [TT_bv, TT_bv, TT_bv, TT_some]
      refine ⟨⟨m + 1, by omega, ?_⟩, ?_⟩
      · have q1 : rk r - stN m - 6 ^ m = rk r - stN (m + 1) := by omega
        rw [q1, Nat.pow_succ]
      · simp only
        rw [nclampI (by omega), nclampI (by omega)]
        omega
  · rintro _ rfl
    rw [TT_bind]
    refine TT_loop (fun s => ∃ (t : List Nat) (n u i : Nat), s = (nI (vr t), nI n, nI u, nI i) ∧ DD t ∧ i + t.length = r.length ∧ n + u * nr t = nr r) (fun s => r.length - s.2.2.2.toNatClampNeg) ?_ _ ⟨r, 0, 1, 0, rfl, h, by omega, by omega⟩
    rintro _ ⟨t, n, u, i, rfl, ht, hi, hn⟩
    have htv := ht.vr
    cases t with
    | nil =>
      simp only [List.length_nil] at hi
      simp (disch := omega) only [nleI]
      rw [if_pos (by omega), TT_some]
      show TT (some _) _
      rw [TT_some]
      congr 1
    | cons d t =>
      obtain ⟨ht2, hd⟩ := ht.tl
      obtain ⟨e2, e3⟩ := vr_div (t := t) hd
      simp only [List.length_cons] at hi
      simp (disch := omega) only [nlit, nleI, nadd, nmul, ndiv, nrem, bv, e2, e3]
      rw [if_neg (by omega), TT_some]
      refine ⟨⟨t, n + u * (d + 1), u * 10, i + 1, rfl, ht2, by omega, ?_⟩, ?_⟩
      · have q : u * (10 * nr t + (d + 1)) = u * 10 * nr t + u * (d + 1) := by rw [Nat.mul_add, Nat.mul_assoc]
        rw [← hn, show nr (d :: t) = 10 * nr t + (d + 1) from rfl, q]
        omega
      · simp only
        rw [nclampI (by omega), nclampI (by omega)]
        omega
/-! which numbers are dishes -/
def isDn (p : Int32) : Prop := ∃ r, DD r ∧ p = nI (nr r)
theorem nr_app : ∀ (t : List Nat) (d : Nat), nr (t ++ [d]) = nr t + 10 ^ t.length * (d + 1)
  | [], d => by simp [nr]
  | e :: t, d => by
    have h := nr_app t d
    rw [List.cons_append, nr, h, nr, List.length_cons, Nat.pow_succ, Nat.mul_add, ← Nat.mul_assoc, Nat.mul_comm 10 (10 ^ t.length)]
    omega
theorem vr_app : ∀ (t : List Nat) (d : Nat), vr (t ++ [d]) = vr t + 6 ^ t.length * d
  | [], d => by simp [vr]
  | e :: t, d => by
    have h := vr_app t d
    rw [List.cons_append, vr, h, vr, List.length_cons, Nat.pow_succ, Nat.mul_add, ← Nat.mul_assoc, Nat.mul_comm 6 (6 ^ t.length)]
    omega
theorem p_lies {x a b : Int32} : f_X12_lies x a b = some (if a ≤ x ∧ x ≤ b then 1 else 0) := by
  unfold f_X12_lies
  by_cases h1 : x < a
  · rw [if_pos h1, if_neg]
    intro h
    exact absurd (Int32.lt_of_lt_of_le h1 h.1) (Int32.lt_irrefl)
  · rw [if_neg h1]
    by_cases h2 : b < x
    · rw [if_pos h2, if_neg]
      intro h
      exact absurd (Int32.lt_of_lt_of_le h2 h.2) (Int32.lt_irrefl)
    · rw [if_neg h2, if_pos ⟨Int32.not_lt.mp h1, Int32.not_lt.mp h2⟩]
theorem lies_bind {α : Type} {x a b : Int32} {A B : Option α} : Option.bind (f_X12_lies x a b) (fun q => if q = 0 then A else B) = if a ≤ x ∧ x ≤ b then B else A := by
  rw [p_lies]
  show (if _ then A else B) = _
  by_cases h : a ≤ x ∧ x ≤ b
  · rw [if_pos h, if_pos h, if_neg (by decide)]
  · rw [if_neg h, if_neg h, if_pos rfl]
theorem nat_of {x : Int32} (h : 0 ≤ x) : ∃ n : Nat, x = nI n ∧ n < 2147483648 := by
  refine ⟨x.toInt.toNat, ?_, ?_⟩
  · have h0 : 0 ≤ x.toInt := by simpa using Int32.le_iff_toInt_le.mp h
    rw [nI_ii, show ((x.toInt.toNat : Nat) : Int) = x.toInt by omega, ii_inv]
  · have := (R32_toInt x).2
    omega
theorem p_isDish_y {r : List Nat} (h : DD r) : f_X12_isDish (nI (nr r)) = some 1 := by
  apply TT.is
  unfold f_X12_isDish
  have hr := h.nr
  rw [lies_bind, if_pos ⟨by simp (disch := omega) only [nlit, nleI]; omega, by simp (disch := omega) only [nlit, nleI]; omega⟩, TT_bind]
  refine TT.mono (Q := fun x => x = .inl ()) ?_ ?_
  · refine TT_loop (fun s => ∃ (t : List Nat), s = nI (nr t) ∧ DD t) (fun s => s.toNatClampNeg) ?_ _ ⟨r, rfl, h⟩
    rintro _ ⟨t, rfl, ht⟩
    have htn := ht.nr
    cases t with
    | nil => exact ⟨_, rfl, rfl⟩
    | cons d t =>
      obtain ⟨ht2, hd⟩ := ht.tl
      obtain ⟨e1, e2, e3, e4⟩ := nr_div (t := t) hd
      rw [lies_bind]
      simp (disch := omega) only [nlit, nleI, ndiv, nrem, e1, e2]
      rw [if_neg (by omega), if_pos (by omega), TT_bv, TT_some]
      refine ⟨⟨t, rfl, ht2⟩, ?_⟩
      rw [nclampI (by omega), nclampI (by omega)]
      exact e4
  · rintro _ rfl
    exact ⟨_, rfl, rfl⟩
theorem p_isDish_n {p : Int32} (h : ¬ isDn p) : f_X12_isDish p = some 0 := by
  apply TT.is
  unfold f_X12_isDish
  rw [lies_bind]
  by_cases hp : 0 ≤ p ∧ p ≤ 66666
  · rw [if_pos hp, TT_bind]
    obtain ⟨n, rfl, hn⟩ := nat_of hp.1
    have hn2 : n ≤ 66666 := by
      have := hp.2
      simp (disch := omega) only [nlit, nleI] at this
      exact this
    refine TT.mono (Q := fun x => x = .inr ()) ?_ ?_
    · refine TT_loop (fun s => ∃ (t : List Nat) (m : Nat), s = nI m ∧ (∀ d ∈ t, d < 6) ∧ n = 10 ^ t.length * m + nr t) (fun s => s.toNatClampNeg) ?_ _ ⟨[], n, rfl, by simp, by simp [nr]⟩
      rintro _ ⟨t, m, rfl, ht, hm⟩
      have hpos : 0 < 10 ^ t.length := Nat.pow_pos (by decide)
      have hmn : m ≤ n := by
        have := Nat.le_mul_of_pos_left m hpos
        omega
      have h5 : ∀ l : List Nat, nr l ≤ 66666 → l.length ≤ 5 := by
        intro l hl
        by_cases hl0 : l = []
        · subst hl0; decide
        · have h1 := nr_ge l hl0
          by_cases h6 : l.length ≤ 5
          · exact h6
          · have : 10 ^ 5 ≤ 10 ^ (l.length - 1) := Nat.pow_le_pow_right (by decide) (by omega)
            omega
      rw [lies_bind]
      simp (disch := omega) only [nlit, nleI, ndiv, nrem]
      rw [TT_if]
      refine ⟨fun h0 => ?_, fun h0 => ?_⟩
      · exfalso
        have : m = 0 := by omega
        subst this
        have hnt : n = nr t := by omega
        exact h ⟨t, ⟨h5 t (by omega), ht⟩, by rw [hnt]⟩
      · by_cases hd : 1 ≤ m % 10 ∧ m % 10 ≤ 6
        · rw [if_pos hd, TT_bv, TT_some]
          refine ⟨⟨t ++ [m % 10 - 1], m / 10, rfl, ?_, ?_⟩, ?_⟩
          · intro d hd2
            rcases List.mem_append.mp hd2 with q | q
            · exact ht d q
            · simp only [List.mem_singleton] at q
              omega
          · rw [nr_app, List.length_append, List.length_singleton, Nat.pow_succ, hm]
            have e : m = 10 * (m / 10) + (m % 10 - 1 + 1) := by omega
            have e2 : 10 ^ t.length * m = 10 ^ t.length * 10 * (m / 10) + 10 ^ t.length * (m % 10 - 1 + 1) := by
              conv => lhs; rw [e]
              rw [Nat.mul_add, Nat.mul_assoc]
            omega
          · rw [nclampI (by omega), nclampI (by omega)]
            omega
        · rw [if_neg hd, TT_some]
          rfl
    · rintro _ rfl
      exact ⟨_, rfl, rfl⟩
  · rw [if_neg hp, TT_some]
theorem p_rankOf_y {r : List Nat} (h : DD r) : f_X6_rankOf (nI (nr r)) = some (nI (rk r)) := by
  apply TT.is
  unfold f_X6_rankOf
  have hr := h.nr
  have h5 := h.1
  have hs : stN r.length ≤ stN 6 := stN_mono (by omega) (by omega)
  have h66 : stN 6 = 9331 := rfl
  rw [if_neg (by simp (disch := omega) only [nlit, nltI]; omega), if_pos (by simp (disch := omega) only [nlit, nleI]; omega), TT_bind]
  refine TT.mono (Q := fun x => x = .inl (nI (vr r), nI r.length)) ?_ ?_
  · refine TT_loop (fun s => ∃ (t : List Nat) (v i : Nat), s = (nI (nr t), nI v, nI i, nI i) ∧ DD t ∧ i + t.length = r.length ∧ v + 6 ^ i * vr t = vr r) (fun s => s.1.toNatClampNeg) ?_ _ ⟨r, 0, 0, rfl, h, by omega, by omega⟩
    rintro _ ⟨t, v, i, rfl, ht, hi, hv⟩
    have htn := ht.nr
    have hvr := h.vr
    cases t with
    | nil =>
      simp only [List.length_nil] at hi
      have hvv : v = vr r := by simpa [vr] using hv
      have hii : i = r.length := by omega
      subst hii
      subst hvv
      simp (disch := omega) only [nlit, nleI]
      rw [TT_if]
      refine ⟨fun _ => ?_, fun _ => ?_⟩
      · rw [TT_some]; rfl
      · rw [if_pos (by decide), TT_some]; rfl
    | cons d t =>
      obtain ⟨ht2, hd⟩ := ht.tl
      obtain ⟨e1, e2, e3, e4⟩ := nr_div (t := t) hd
      simp only [List.length_cons] at hi
      rw [pwV_n (by omega)]
      simp (disch := omega) only [nlit, nleI, nltI, ndiv, nrem, bv, e1, e2, nvp, nadd, nmul, nsub]
      rw [if_neg (by omega), if_neg (by omega), if_neg (by omega), if_pos (by omega), TT_grd]
      refine ⟨by omega, ?_⟩
      rw [TT_some]
      refine ⟨⟨t, v + (d + 1 - 1) * 6 ^ i, i + 1, rfl, ht2, by omega, ?_⟩, ?_⟩
      · have q : 6 ^ i * (6 * vr t + d) = 6 ^ i * 6 * vr t + d * 6 ^ i := by rw [Nat.mul_add, Nat.mul_assoc, Nat.mul_comm d]
        rw [← hv, show vr (d :: t) = 6 * vr t + d from rfl, q, Nat.pow_succ, Nat.add_sub_cancel]
        omega
      · simp only
        rw [nclampI (by omega), nclampI (by omega)]
        exact e4
  · rintro _ rfl
    show TT (grd _ _) _
    rw [TT_grd, nvp (by omega), TT_some, stV_n (by omega), nadd]
    exact ⟨by omega, rfl⟩
theorem p_rankOf_n {p : Int32} (h : ¬ isDn p) : f_X6_rankOf p = some (-1) := by
  apply TT.is
  unfold f_X6_rankOf
  by_cases hp0 : p < 0
  · rw [if_pos hp0, TT_some]
  rw [if_neg hp0]
  by_cases hp1 : p ≤ 66666
  · rw [if_pos hp1, TT_bind]
    obtain ⟨n, rfl, hn⟩ := nat_of (Int32.not_lt.mp hp0)
    have hn2 : n ≤ 66666 := by
      have := hp1
      simp (disch := omega) only [nlit, nleI] at this
      exact this
    refine TT.mono (Q := fun x => x = .inr ()) ?_ ?_
    · refine TT_loop (fun s => ∃ (t : List Nat) (m : Nat) (v : Int32), s = (nI m, v, nI t.length, nI t.length) ∧ (∀ d ∈ t, d < 6) ∧ n = 10 ^ t.length * m + nr t ∧ t.length ≤ 5) (fun s => s.1.toNatClampNeg) ?_ _ ⟨[], n, 0, rfl, by simp, by simp [nr], by simp⟩
      rintro _ ⟨t, m, v, rfl, ht, hm, h5⟩
      have hpos : 0 < 10 ^ t.length := Nat.pow_pos (by decide)
      have hmn : m ≤ n := by
        have := Nat.le_mul_of_pos_left m hpos
        omega
      have no : m ≠ 0 := by
        intro h0
        subst h0
        have hnt : n = nr t := by omega
        exact h ⟨t, ⟨h5, ht⟩, by rw [hnt]⟩
      have h6 : t.length < 5 := by
        rcases Nat.lt_or_ge t.length 5 with q | q
        · exact q
        · have e : t.length = 5 := by omega
          rw [e] at hm
          omega
      rw [pwV_n (by omega)]
      simp (disch := omega) only [nlit, nleI, nltI, ndiv, nrem, bv, nvp]
      rw [if_neg (by omega), if_neg (by omega), TT_if]
      refine ⟨fun _ => by rw [TT_some]; rfl, fun h1 => ?_⟩
      rw [TT_if]
      refine ⟨fun h2 => ?_, fun _ => by rw [TT_some]; rfl⟩
      rw [TT_grd]
      refine ⟨by omega, ?_⟩
      rw [TT_some]
      refine ⟨⟨t ++ [m % 10 - 1], m / 10, _, by rw [List.length_append, List.length_singleton, nadd], ?_, ?_, by rw [List.length_append, List.length_singleton]; omega⟩, ?_⟩
      · intro d hd2
        rcases List.mem_append.mp hd2 with q | q
        · exact ht d q
        · simp only [List.mem_singleton] at q
          omega
      · rw [nr_app, List.length_append, List.length_singleton, Nat.pow_succ, hm]
        have e : m = 10 * (m / 10) + (m % 10 - 1 + 1) := by omega
        have e2 : 10 ^ t.length * m = 10 ^ t.length * 10 * (m / 10) + 10 ^ t.length * (m % 10 - 1 + 1) := by
          conv => lhs; rw [e]
          rw [Nat.mul_add, Nat.mul_assoc]
        omega
      · simp only
        rw [nclampI (by omega), nclampI (by omega)]
        omega
    · rintro _ rfl
      exact ⟨_, rfl, rfl⟩
  · rw [if_neg hp1, TT_some]
