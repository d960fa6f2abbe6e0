/-! BITS of natural numbers as ints; a loop that counts -/
theorem and_n (a b : Nat) : nI a &&& nI b = nI (a &&& b) := by
  apply Int32.toBitVec_inj.mp
  show BitVec.ofNat 32 a &&& BitVec.ofNat 32 b = BitVec.ofNat 32 (a &&& b)
  apply BitVec.eq_of_toNat_eq
  simp
theorem or_n (a b : Nat) : nI a ||| nI b = nI (a ||| b) := by
  apply Int32.toBitVec_inj.mp
  show BitVec.ofNat 32 a ||| BitVec.ofNat 32 b = BitVec.ofNat 32 (a ||| b)
  apply BitVec.eq_of_toNat_eq
  simp
theorem xor_n (a b : Nat) : nI a ^^^ nI b = nI (a ^^^ b) := by
  apply Int32.toBitVec_inj.mp
  show BitVec.ofNat 32 a ^^^ BitVec.ofNat 32 b = BitVec.ofNat 32 (a ^^^ b)
  apply BitVec.eq_of_toNat_eq
  simp
theorem sh_n {i : Nat} (hi : i < 32) : nI i &&& 31 = nI i := by
  rw [show (31 : Int32) = nI 31 from rfl, and_n]
  congr 1
  have := Nat.and_two_pow_sub_one_eq_mod i 5
  simp at this
  omega
theorem smod_n : ∀ i, i < 32 → (BitVec.ofNat 32 i).smod 32 = BitVec.ofNat 32 i := by decide
theorem sr_n {b i : Nat} (hb : b < 2147483648) (hi : i < 32) : sr (nI b) (nI i) = nI (b / 2 ^ i) := by
  unfold sr
  rw [sh_n hi]
  apply Int32.toBitVec_inj.mp
  rw [Int32.toBitVec_shiftRight]
  show BitVec.sshiftRight' (BitVec.ofNat 32 b) ((BitVec.ofNat 32 i).smod 32) = BitVec.ofNat 32 (b / 2 ^ i)
  rw [smod_n i hi]
  apply BitVec.eq_of_toNat_eq
  have hm : (BitVec.ofNat 32 b).msb = false := by
    rw [BitVec.msb_eq_decide]
    simp
    omega
  have hq : b / 2 ^ i ≤ b := Nat.div_le_self _ _
  rw [BitVec.toNat_sshiftRight'_of_msb_false hm]
  simp only [BitVec.toNat_ofNat, Nat.shiftRight_eq_div_pow]
  rw [Nat.mod_eq_of_lt (show i < 2 ^ 32 by omega), Nat.mod_eq_of_lt (show b < 2 ^ 32 by omega), Nat.mod_eq_of_lt (show b / 2 ^ i < 2 ^ 32 by omega)]
theorem sl_n {b i : Nat} (hi : i < 32) : sl (nI b) (nI i) = nI (b * 2 ^ i) := by
  unfold sl
  rw [sh_n hi]
  apply Int32.toBitVec_inj.mp
  rw [Int32.toBitVec_shiftLeft]
  show (BitVec.ofNat 32 b) <<< ((BitVec.ofNat 32 i).smod 32) = BitVec.ofNat 32 (b * 2 ^ i)
  rw [smod_n i hi]
  apply BitVec.eq_of_toNat_eq
  rw [BitVec.shiftLeft_eq', BitVec.toNat_shiftLeft]
  simp [Nat.shiftLeft_eq]
  rw [Nat.mod_eq_of_lt (show i < 4294967296 by omega), Nat.mul_mod]
theorem sr_neg {p : Int32} {i : Nat} (hi : i < 32) (h : sr p (nI i) = 0) : 0 ≤ p := by
  unfold sr at h
  rw [sh_n hi] at h
  have h2 := congrArg Int32.toBitVec h
  rw [Int32.toBitVec_shiftRight] at h2
  rw [show (nI i).toBitVec.smod 32 = BitVec.ofNat 32 i from smod_n i hi] at h2
  have h3 := congrArg BitVec.toInt h2
  rw [BitVec.sshiftRight_eq', BitVec.toInt_sshiftRight] at h3
  rw [Int32.le_iff_toInt_le]
  show (0 : Int) ≤ p.toBitVec.toInt
  have e0 : (0 : Int32).toBitVec.toInt = 0 := by decide
  rw [e0, Int.shiftRight_eq_div_pow] at h3
  rcases Int.lt_or_le p.toBitVec.toInt 0 with q | q
  · have := Int.ediv_neg_of_neg_of_pos (b := ((2 ^ (BitVec.ofNat 32 i).toNat : Nat) : Int)) q (by exact_mod_cast Nat.pow_pos (by decide))
    omega
  · exact q
theorem and1 (b i : Nat) (hb : b < 2147483648) (hi : i < 32) : sr (nI b) (nI i) &&& 1 = nI (b / 2 ^ i % 2) := by
  rw [sr_n hb hi, show (1 : Int32) = nI 1 from rfl, and_n]
  congr 1
  have := Nat.and_two_pow_sub_one_eq_mod (b / 2 ^ i) 1
  simpa using this
theorem and7 (b i : Nat) (hb : b < 2147483648) (hi : i < 32) : sr (nI b) (nI i) &&& 7 = nI (b / 2 ^ i % 8) := by
  rw [sr_n hb hi, show (7 : Int32) = nI 7 from rfl, and_n]
  congr 1
  have := Nat.and_two_pow_sub_one_eq_mod (b / 2 ^ i) 3
  simpa using this
theorem bit_n {b i : Nat} (hb : b < 2147483648) (hi : i < 32) : (sr (nI b) (nI i) &&& 1 = 1) ↔ b.testBit i = true := by
  rw [and1 b i hb hi, show (1 : Int32) = nI 1 from rfl, neqI (by omega) (by omega), Nat.testBit_eq_decide_div_mod_eq]
  simp
theorem tst_le {l : List Nat} (hl : DL l) : tst l < 2147483648 := by
  have h := tst_count l hl.2
  have c : ∀ t, l.count t ≤ 5 := fun t => Nat.le_trans List.count_le_length hl.1
  have := c 0
  have := c 1
  have := c 2
  have := c 3
  have := c 4
  have := c 5
  omega
theorem holds_n {l : List Nat} (hl : DL l) {t : Nat} (ht : t < 6) : sr (nI (tst l)) (3 * nI t) &&& 7 = nI (l.count t) := by
  rw [show (3 : Int32) * nI t = nI (3 * t) by rw [show (3 : Int32) = nI 3 from rfl, nmul], and7 _ _ (tst_le hl) (by omega), Nat.pow_mul]
  congr 1
  exact tst_holds hl ht
theorem nsucc (k : Nat) : nI k + 1 = nI (k + 1) := nadd k 1
/-- a loop that counts to n at most -/
theorem TT_for {τ ρ : Type} {b : τ → Option (τ ⊕ ρ)} (n : Nat) (I : Nat → τ → Prop) {Q : ρ → Prop} (hb : ∀ k s, k ≤ n → I k s → TT (b s) (fun r => r.elim (fun s' => k < n ∧ I (k + 1) s') Q)) {k : Nat} (hk : k ≤ n) {s : τ} (h0 : I k s) : TT (loopO b s) Q := by
  have key : ∀ (j k : Nat) (s : τ), k + j = n → I k s → TT (loopO b s) Q := by
    intro j
    induction j with
    | zero =>
      intro k s hj hi
      obtain ⟨r, hr, hq⟩ := hb k s (by omega) hi
      rw [loopO_eq, hr]
      cases r with
      | inl s' => exact absurd hq.1 (by omega)
      | inr x => exact ⟨x, rfl, hq⟩
    | succ j ih =>
      intro k s hj hi
      obtain ⟨r, hr, hq⟩ := hb k s (by omega) hi
      rw [loopO_eq, hr]
      cases r with
      | inl s' => exact ih (k + 1) s' (by omega) hq.2
      | inr x => exact ⟨x, rfl, hq⟩
  exact key (n - k) k s (by omega) h0
