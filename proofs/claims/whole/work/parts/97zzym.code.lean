/-! LINES: all rows of MOTHERS, in order -/
def dig : Option Nat → Nat
  | none => 0
  | some i => i + 1
def dgo (g : Nat) : Option Nat := if g = 0 then none else some (g - 1)
theorem dgo_dig (o : Option Nat) : dgo (dig o) = o := by
  cases o with
  | none => rfl
  | some i => rfl
/-- the MOTHER of one in row number c -/
def mkC (n c k : Nat) : Option Nat := dgo (c / (n + 1) ^ (n - 1 - k) % (n + 1))
def enc (n : Nat) (m : Nat → Option Nat) : Nat → Nat
  | 0 => 0
  | d + 1 => enc n m d * (n + 1) + dig (m d)
theorem mkC_lt {n c k i : Nat} (hn : 0 < n) (h : mkC n c k = some i) : i < n := by
  unfold mkC dgo at h
  split at h
  · cases h
  · cases h
    have := Nat.mod_lt (c / (n + 1) ^ (n - 1 - k)) (show 0 < n + 1 by omega)
    omega
theorem dig_lt {n : Nat} {m : Nat → Option Nat} {d : Nat} (hm : ∀ k i, k < d → m k = some i → i < n) {k : Nat} (hk : k < d) : dig (m k) < n + 1 := by
  cases h : m k with
  | none => exact Nat.succ_pos n
  | some i =>
    have := hm k i hk h
    show i + 1 < n + 1
    omega
theorem enc_lt {n : Nat} {m : Nat → Option Nat} : ∀ d, (∀ k i, k < d → m k = some i → i < n) → enc n m d < (n + 1) ^ d
  | 0, _ => by simp [enc]
  | d + 1, hm => by
    have ih := enc_lt d (fun k i hk => hm k i (by omega))
    have := dig_lt hm (show d < d + 1 by omega)
    rw [enc, Nat.pow_succ]
    have h2 : (enc n m d + 1) * (n + 1) ≤ (n + 1) ^ d * (n + 1) := Nat.mul_le_mul_right _ ih
    rw [Nat.add_mul] at h2
    omega
/-- the rows that begin so -/
theorem blk_digit {n : Nat} {m : Nat → Option Nat} : ∀ d, d ≤ n → (∀ k i, k < d → m k = some i → i < n) → ∀ c, c / (n + 1) ^ (n - d) = enc n m d → ∀ k, k < d → mkC n c k = m k
  | 0, _, _, _, _, k, hk => by omega
  | d + 1, hd, hm, c, hc, k, hk => by
    have hdl := dig_lt hm (show d < d + 1 by omega)
    have e1 : c / (n + 1) ^ (n - d) = enc n m d := by
      rw [show n - d = (n - (d + 1)) + 1 from by omega, Nat.pow_succ, ← Nat.div_div_eq_div_mul, hc, enc, Nat.mul_comm, Nat.mul_add_div (by omega), Nat.div_eq_of_lt hdl, Nat.add_zero]
    by_cases w : k = d
    · subst w
      unfold mkC
      rw [show n - 1 - k = n - (k + 1) from by omega, hc, enc, Nat.mul_comm, Nat.mul_add_mod, Nat.mod_eq_of_lt hdl, dgo_dig]
    · exact blk_digit d (by omega) (fun k i hk => hm k i (by omega)) c e1 k (by omega)
theorem enc_blk {n : Nat} {m : Nat → Option Nat} (hm : ∀ k i, k < n → m k = some i → i < n) (k : Nat) (hk : k < n) : mkC n (enc n m n) k = m k := blk_digit n (Nat.le_refl _) hm (enc n m n) (by rw [Nat.sub_self, Nat.pow_zero, Nat.div_one]) k hk
/-- how many, and the first -/
noncomputable def cg (G : Nat → Prop) : Nat → Nat
  | 0 => 0
  | X + 1 => cg G X + @ite _ (G X) (Classical.propDecidable _) 1 0
noncomputable def fg (G : Nat → Prop) : Nat → Option Nat
  | 0 => none
  | X + 1 => match fg G X with
    | some c => some c
    | none => @ite _ (G X) (Classical.propDecidable _) (some X) none
theorem cg_y {G : Nat → Prop} {X : Nat} (h : G X) : cg G (X + 1) = cg G X + 1 := by rw [cg, if_pos h]
theorem cg_n {G : Nat → Prop} {X : Nat} (h : ¬ G X) : cg G (X + 1) = cg G X ∧ fg G (X + 1) = fg G X := by
  rw [cg, fg, if_neg h, if_neg h]
  refine ⟨rfl, ?_⟩
  cases fg G X with
  | none => rfl
  | some c => rfl
theorem cg_no {G : Nat → Prop} : ∀ j X, (∀ c, X ≤ c → c < X + j → ¬ G c) → cg G (X + j) = cg G X ∧ fg G (X + j) = fg G X
  | 0, X, _ => ⟨rfl, rfl⟩
  | j + 1, X, h => by
    obtain ⟨a, b⟩ := cg_no j X (fun c h1 h2 => h c h1 (by omega))
    obtain ⟨a2, b2⟩ := cg_n (h (X + j) (by omega) (by omega))
    exact ⟨a2.trans a, b2.trans b⟩
theorem fg_0 {G : Nat → Prop} : ∀ X, cg G X = 0 ↔ fg G X = none
  | 0 => ⟨fun _ => rfl, fun _ => rfl⟩
  | X + 1 => by
    by_cases w : G X
    · rw [cg_y w, fg]
      refine ⟨fun q => by omega, fun q => ?_⟩
      cases h : fg G X with
      | none =>
        rw [h] at q
        simp only [if_pos w] at q
        cases q
      | some c =>
        rw [h] at q
        cases q
    · obtain ⟨a, b⟩ := cg_n w
      rw [a, b]
      exact fg_0 X
theorem fg_y {G : Nat → Prop} {X : Nat} (h : G X) (h0 : fg G X = none) : fg G (X + 1) = some X := by
  rw [fg, h0]
  simp only [if_pos h]
theorem fg_s {G : Nat → Prop} {X c : Nat} (h : fg G X = some c) : fg G (X + 1) = some c := by
  rw [fg, h]
theorem fg_lt {G : Nat → Prop} : ∀ X c, fg G X = some c → c < X ∧ G c
  | 0, c, h => by cases h
  | X + 1, c, h => by
    rw [fg] at h
    cases h2 : fg G X with
    | none =>
      rw [h2] at h
      by_cases w : G X
      · simp only [if_pos w] at h
        cases h
        exact ⟨by omega, w⟩
      · simp only [if_neg w] at h
        cases h
    | some c' =>
      rw [h2] at h
      cases h
      have := fg_lt X c h2
      exact ⟨by omega, this.2⟩
theorem cg_cg {G G' : Nat → Prop} : ∀ X, (∀ c, c < X → (G c ↔ G' c)) → cg G X = cg G' X ∧ fg G X = fg G' X
  | 0, _ => ⟨rfl, rfl⟩
  | X + 1, h => by
    obtain ⟨a, b⟩ := cg_cg X (fun c hc => h c (by omega))
    by_cases w : G X
    · have w' := (h X (by omega)).mp w
      rw [cg_y w, cg_y w', a]
      refine ⟨rfl, ?_⟩
      cases hf : fg G X with
      | none => rw [fg_y w hf, fg_y w' (by rw [← b]; exact hf)]
      | some c => rw [fg_s hf, fg_s (c := c) (by rw [← b]; exact hf)]
    · have w' : ¬ G' X := fun q => w ((h X (by omega)).mpr q)
      obtain ⟨a1, b1'⟩ := cg_n w
      obtain ⟨a2, b2⟩ := cg_n w'
      rw [a1, a2, b1', b2]
      exact ⟨a, b⟩
/-- the whole cost of a row -/
def cs (W : Nat → Nat → Nat) (m : Nat → Option Nat) (d : Nat) : Nat := csm W m (fun _ => true) d
theorem cs_succ {W : Nat → Nat → Nat} {m : Nat → Option Nat} {d : Nat} : cs W m (d + 1) = cs W m d + cst W m d := by
  unfold cs
  rw [csm, if_pos rfl]
theorem cs_cg {W : Nat → Nat → Nat} {m m' : Nat → Option Nat} {d : Nat} (h : ∀ k, k < d → m k = m' k) : cs W m d = cs W m' d := csm_cg d (fun k hk _ => h k hk)
theorem TREE.cg {m m' : Nat → Option Nat} {n : Nat} (h : ∀ k, k < n → m k = m' k) (ht : TREE m n) : TREE m' n := by
  obtain ⟨⟨r, r1, r2, r3⟩, ha⟩ := ht
  exact ⟨⟨r, r1, by rw [← h r r1]; exact r2, fun k hk hm => r3 k hk (by rw [h k hk]; exact hm)⟩, ha.cg h⟩
theorem all_bit {n k : Nat} : (2 ^ n - 1).testBit k = decide (k < n) := Nat.testBit_two_pow_sub_one n k
theorem TREE.sub {m : Nat → Option Nat} {n : Nat} (hm : ∀ k i, k < n → m k = some i → i < n) : TREE m n ↔ SUBT m (2 ^ n - 1).testBit n := by
  have hb : ∀ k, k < n → (2 ^ n - 1).testBit k = true := fun k hk => by rw [all_bit]; simp [hk]
  constructor
  · rintro ⟨⟨r, r1, r2, r3⟩, ha⟩
    refine ⟨fun k i hk _ h => ⟨hm k i hk h, hb i (hm k i hk h)⟩, fun k hk _ => ⟨n, ?_⟩, r, r1, hb r r1, r2, fun k hk _ h => r3 k hk h⟩
    have ht := ha.at k
    cases hp : pth m n n k with
    | none => rfl
    | some q =>
      exfalso
      have hq := ht q hp
      have : ∀ s k q, k < n → pth m n s k = some q → q < n := by
        intro s
        induction s with
        | zero =>
          intro k q hk h
          cases h
          exact hk
        | succ s ih =>
          intro k q hk h
          rw [pth, if_pos hk] at h
          cases hmk : m k with
          | none => rw [hmk] at h; cases h
          | some i =>
            rw [hmk] at h
            exact ih i q (hm k i hk hmk) h
      have := this n k q hk hp
      omega
  · rintro ⟨_, s2, r, r1, _, r3, r4⟩
    refine ⟨⟨r, r1, r3, fun k hk h => r4 k hk (hb k hk) h⟩, fun k hk => ?_⟩
    obtain ⟨s, hs⟩ := s2 k hk (hb k hk)
    exact ⟨s, fun q hq => by rw [hs] at hq; cases hq⟩
theorem cs_all {W : Nat → Nat → Nat} {m : Nat → Option Nat} {n : Nat} : csm W m (2 ^ n - 1).testBit n = cs W m n := csm_same n (fun k hk => by rw [all_bit]; simp [hk])
/-- the table of sets tells the least cost -/
theorem few_min {W : Nat → Nat → Nat} {n : Nat} (hn0 : 0 < n) (hn : n ≤ 6) {F : Nat → Nat} (hF : FEW W n F) : (F (2 ^ n - 1) < 1000000 → ∃ c, c < (n + 1) ^ n ∧ TREE (mkC n c) n ∧ cs W (mkC n c) n = F (2 ^ n - 1)) ∧ ∀ c, TREE (mkC n c) n → F (2 ^ n - 1) ≤ cs W (mkC n c) n := by
  have h2 : 2 ≤ 2 ^ n := by
    have : 2 ^ 1 ≤ 2 ^ n := Nat.pow_le_pow_right (by omega) hn0
    omega
  constructor
  · intro hl
    obtain ⟨m, hs, hc⟩ := few_ge hn hF (2 ^ n - 1) (by omega) (by omega) hl
    have hv : ∀ k i, k < n → m k = some i → i < n := fun k i hk h => (hs.1 k i hk (by rw [all_bit]; simp [hk]) h).1
    have ht := (TREE.sub hv).mpr hs
    have he := enc_blk hv
    refine ⟨enc n m n, enc_lt n hv, ht.cg (fun k hk => (he k hk).symm), ?_⟩
    rw [cs_cg he, ← hc, cs_all]
  · intro c ht
    have hv : ∀ k i, k < n → mkC n c k = some i → i < n := fun k i _ h => mkC_lt hn0 h
    have := few_le hn hF (2 ^ n - 1) (by omega) (by omega) ((TREE.sub hv).mp ht)
    rw [cs_all] at this
    exact this
