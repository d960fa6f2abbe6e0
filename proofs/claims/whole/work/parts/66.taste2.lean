/-! tastings: groups on both sides -/
def TLD (n : Nat) (p : Int32) (b : Nat) : Prop := 1 ≤ b ∧ b < 2 ^ n ∧ p = nI b
theorem pw12 {n : Nat} (hn : n ≤ 12) : 1 ≤ 2 ^ n ∧ 2 ^ n ≤ 4096 := ⟨Nat.pow_pos (by decide), Nat.le_trans (Nat.pow_le_pow_right (by decide) hn) (by decide)⟩
theorem tld_or {n : Nat} (hn : n ≤ 12) (p : Int32) : (∃ b, TLD n p b) ∨ ¬ (1 ≤ p ∧ p ≤ nI (2 ^ n) - 1) := by
  have := pw12 hn
  by_cases h : 1 ≤ p ∧ p ≤ nI (2 ^ n) - 1
  · obtain ⟨h1, h2⟩ := h
    have h0 : 0 ≤ p := Int32.le_trans (by decide) h1
    obtain ⟨b, rfl, hb⟩ := nat_of h0
    rw [show (1 : Int32) = nI 1 from rfl, nsub (by omega), nleI hb (by omega)] at h2
    rw [show (1 : Int32) = nI 1 from rfl, nleI (by omega) hb] at h1
    exact Or.inl ⟨b, h1, by omega, rfl⟩
  · exact Or.inr h
theorem r_areHouses {M : Mem} (hM : LayM M) {n : Nat} (hn : n ≤ 12) (h56 : mI M 49 56 = nI n) (p : Int32) : f_X12_areHouses M 47 p = some (if 1 ≤ p ∧ p ≤ nI (2 ^ n) - 1 then 1 else 0) := by
  unfold f_X12_areHouses
  unfold LayM at hM
  simp only [hM, grd_T, Option.bind_some]
  rw [show (56 : Int32) = nI 56 from rfl, grd_y ((nvp (by omega)).mpr (by omega)), nclampI (by omega), h56, show sl 1 (nI n) = nI (2 ^ n) by rw [show (1 : Int32) = nI 1 from rfl, sl_n (by omega), Nat.one_mul], p_lies, Option.bind_some, grd_y (bl_if _)]
theorem c_toldOf {M : Mem} (hC : LayC M) {n : Nat} (hn : n ≤ 12) (h8 : mI M 1 8 = nI n) (p : Int32) : f_X10_toldOf M 1 p = some (if 1 ≤ p ∧ p ≤ nI (2 ^ n) - 1 then p else 0) := by
  have hp2 := pw12 hn
  unfold f_X10_toldOf
  unfold LayC at hC
  simp only [hC, grd_T, h8]
  rcases tld_or hn p with ⟨b, h1, h2, rfl⟩ | h
  · rw [sr_n (by omega) (by omega), Nat.div_eq_of_lt h2, if_pos (show nI 0 = 0 from rfl), if_pos]
    rw [show (1 : Int32) = nI 1 from rfl, nsub (by omega), nleI (by omega) (by omega), nleI (by omega) (by omega)]
    omega
  · rw [if_neg h]
    by_cases h0 : sr p (nI n) = 0
    · rw [if_pos h0]
      have hp := sr_neg (by omega) h0
      obtain ⟨b, rfl, hb⟩ := nat_of hp
      rw [sr_n hb (by omega), show (0 : Int32) = nI 0 from rfl, neqI (by have := Nat.div_le_self b (2 ^ n); omega) (by omega)] at h0
      have hlt : b < 2 ^ n := by
        rcases Nat.lt_or_ge b (2 ^ n) with q | q
        · exact q
        · have := Nat.div_pos q (by omega)
          omega
      rw [show (1 : Int32) = nI 1 from rfl, nsub (by omega), nleI (by omega) (by omega), nleI (by omega) (by omega)] at h
      rw [show b = 0 by omega]
      rfl
    · rw [if_neg h0]
/-- alike by the told things -/
def alk (di : Nat → List Nat) (set a b : Nat) : Bool := (List.range 6).all (fun t => !set.testBit t || (di a).count t == (di b).count t)
def mkS (set : Nat) : Nat → Nat
  | 0 => 0
  | t + 1 => mkS set t ||| (set / 2 ^ t % 2 * 7) * 2 ^ (3 * t)
theorem mkS_bit : ∀ set, set < 64 → ∀ j, j < 18 → (mkS set 6).testBit j = set.testBit (j / 3) := by decide
theorem mkS_hi : ∀ set, set < 64 → mkS set 6 < 2 ^ 18 := by decide
theorem mkS_le : ∀ set, set < 64 → ∀ t, t < 7 → mkS set t < 2 ^ 18 := by decide
theorem like_iff {l l2 : List Nat} (hl : DL l) (hl2 : DL l2) {set : Nat} (hs : set < 64) : ((tst l ^^^ tst l2) &&& mkS set 6 = 0) ↔ ∀ t, t < 6 → set.testBit t = true → l.count t = l2.count t := by
  have h18 : ∀ t, t < 6 → ∀ m : List Nat, DL m → m.count t = tst m / 8 ^ t % 8 := fun t ht m hm => (tst_holds hm ht).symm
  constructor
  · intro h t ht hb
    rw [h18 t ht l hl, h18 t ht l2 hl2, show (8 : Nat) ^ t = 2 ^ (3 * t) by rw [Nat.pow_mul]]
    have key : ∀ j, j < 3 → (tst l).testBit (3 * t + j) = (tst l2).testBit (3 * t + j) := by
      intro j hj
      have e := congrArg (fun z => z.testBit (3 * t + j)) h
      simp only [Nat.testBit_and, Nat.testBit_xor, Nat.zero_testBit] at e
      rw [mkS_bit set hs (3 * t + j) (by omega), show (3 * t + j) / 3 = t by omega, hb, Bool.and_true] at e
      revert e
      cases (tst l).testBit (3 * t + j) <;> cases (tst l2).testBit (3 * t + j) <;> simp
    apply Nat.eq_of_testBit_eq
    intro j
    rw [show (8 : Nat) = 2 ^ 3 from rfl, Nat.testBit_mod_two_pow, Nat.testBit_mod_two_pow, Nat.testBit_div_two_pow, Nat.testBit_div_two_pow]
    by_cases hj : j < 3
    · rw [Nat.add_comm, key j hj]
    · simp [hj]
  · intro h
    apply Nat.eq_of_testBit_eq
    intro j
    rw [Nat.testBit_and, Nat.testBit_xor, Nat.zero_testBit]
    by_cases hj : j < 18
    · rw [mkS_bit set hs j hj]
      cases hb : set.testBit (j / 3) with
      | false => simp
      | true =>
        have e := h (j / 3) (by omega) hb
        rw [h18 _ (by omega) l hl, h18 _ (by omega) l2 hl2, show (8 : Nat) ^ (j / 3) = 2 ^ (3 * (j / 3)) by rw [Nat.pow_mul]] at e
        have e2 := congrArg (fun z => z.testBit (j % 3)) e
        rw [show (8 : Nat) = 2 ^ 3 from rfl, Nat.testBit_mod_two_pow, Nat.testBit_mod_two_pow, Nat.testBit_div_two_pow, Nat.testBit_div_two_pow, show j % 3 + 3 * (j / 3) = j by omega, decide_eq_true (show j % 3 < 3 by omega), Bool.true_and, Bool.true_and] at e2
        rw [e2]
        simp
    · rw [Nat.testBit_lt_two_pow (Nat.lt_of_lt_of_le (mkS_hi set hs) (Nat.pow_le_pow_right (by decide) (by omega))), Bool.and_false]
theorem alk_iff {di : Nat → List Nat} {set a b : Nat} : alk di set a b = true ↔ ∀ t, t < 6 → set.testBit t = true → (di a).count t = (di b).count t := by
  unfold alk
  rw [List.all_eq_true]
  constructor
  · intro h t ht hb
    have := h t (List.mem_range.mpr ht)
    rw [hb] at this
    simpa using this
  · intro h t ht
    cases hb : set.testBit t with
    | false => rfl
    | true => simpa using h t (List.mem_range.mp ht) hb
/-- the first of its group among the told -/
def fst1 (di : Nat → List Nat) (b set a k : Nat) : Bool := !(List.range k).any (fun c => b.testBit c && alk di set a c)
def grp (di : Nat → List Nat) (b set k : Nat) : Nat := (List.range k).countP (fun a => b.testBit a && fst1 di b set a a)
theorem grp_succ {di : Nat → List Nat} {b set k : Nat} : grp di b set (k + 1) = grp di b set k + (if b.testBit k && fst1 di b set k k then 1 else 0) := by
  unfold grp
  rw [List.range_succ, List.countP_append, List.countP_singleton]
theorem grp_le {di : Nat → List Nat} {b set k : Nat} : grp di b set k ≤ k := by
  have := List.countP_le_length (p := fun a => b.testBit a && fst1 di b set a a) (l := List.range k)
  simpa [grp] using this
theorem b63 : ∀ t, t < 6 → Nat.testBit 63 t = true := by decide
theorem grp_mono {di : Nat → List Nat} {b set k : Nat} : grp di b set k ≤ grp di b 63 k := by
  unfold grp
  apply List.countP_mono_left
  intro a _ h
  rw [Bool.and_eq_true] at h ⊢
  refine ⟨h.1, ?_⟩
  have h2 := h.2
  unfold fst1 at h2 ⊢
  rw [Bool.not_eq_true'] at h2 ⊢
  rw [List.any_eq_false] at h2 ⊢
  intro c hc w
  apply h2 c hc
  rw [Bool.and_eq_true] at w ⊢
  refine ⟨w.1, alk_iff.mpr (fun t ht _ => alk_iff.mp w.2 t ht (b63 t ht))⟩
