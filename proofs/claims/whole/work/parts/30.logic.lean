/-! PURE: what a function tells, and of what it tells -/
def TT {α : Type} (t : Option α) (Q : α → Prop) : Prop := ∃ x, t = some x ∧ Q x
theorem TT_some {α : Type} {x : α} {Q : α → Prop} : TT (some x) Q ↔ Q x := by
  constructor
  · rintro ⟨y, h, hq⟩
    cases h
    exact hq
  · exact fun h => ⟨x, rfl, h⟩
theorem TT_none {α : Type} {Q : α → Prop} : TT (none : Option α) Q ↔ False := by
  constructor
  · rintro ⟨y, h, -⟩
    cases h
  · exact fun h => h.elim
theorem TT_bind {α β : Type} {t : Option α} {f : α → Option β} {Q : β → Prop} : TT (Option.bind t f) Q ↔ TT t (fun x => TT (f x) Q) := by
  cases t with
  | none => exact ⟨fun ⟨y, h, _⟩ => (by cases h), fun ⟨y, h, _⟩ => (by cases h)⟩
  | some x => exact ⟨fun h => ⟨x, rfl, h⟩, fun ⟨y, h, hq⟩ => by cases h; exact hq⟩
theorem TT_grd {α : Type} {c : Prop} {t : Option α} {Q : α → Prop} : TT (grd c t) Q ↔ c ∧ TT t Q := by
  constructor
  · rintro ⟨x, h, hq⟩
    obtain ⟨h1, h2⟩ := grd_some.mp h
    exact ⟨h1, x, h2, hq⟩
  · rintro ⟨h1, x, h2, hq⟩
    exact ⟨x, grd_some.mpr ⟨h1, h2⟩, hq⟩
theorem TT_bv {α β : Type} {v : α} {k : α → Option β} {Q : β → Prop} : TT (bv v k) Q ↔ TT (k v) Q := Iff.rfl
theorem TT_if {α : Type} {c : Prop} [h : Decidable c] {a b : Option α} {Q : α → Prop} : TT (if c then a else b) Q ↔ (c → TT a Q) ∧ (¬ c → TT b Q) := by
  by_cases hc : c
  · rw [if_pos hc]
    exact ⟨fun h => ⟨fun _ => h, fun n => absurd hc n⟩, fun h => h.1 hc⟩
  · rw [if_neg hc]
    exact ⟨fun h => ⟨fun n => absurd n hc, fun _ => h⟩, fun h => h.2 hc⟩
theorem TT.mono {α : Type} {t : Option α} {Q R : α → Prop} (h : TT t Q) (hm : ∀ x, Q x → R x) : TT t R := by
  obtain ⟨x, hx, hq⟩ := h
  exact ⟨x, hx, hm x hq⟩
theorem TT.eq {α : Type} {t : Option α} {x : α} {Q : α → Prop} (h : t = some x) (hq : Q x) : TT t Q := ⟨x, h, hq⟩
/-- a loop: an invariant and a measure -/
theorem TT_loop {σ ρ : Type} {b : σ → Option (σ ⊕ ρ)} (I : σ → Prop) (μ : σ → Nat) {Q : ρ → Prop} (hb : ∀ s, I s → TT (b s) (fun r => r.elim (fun s' => I s' ∧ μ s' < μ s) Q)) : ∀ s, I s → TT (loopO b s) Q := by
  have key : ∀ (n : Nat) (s : σ), μ s ≤ n → I s → TT (loopO b s) Q := by
    intro n
    induction n with
    | zero =>
      intro s hn hi
      obtain ⟨r, hr, hq⟩ := hb s hi
      rw [loopO_eq, hr]
      cases r with
      | inl s' => exact absurd hq.2 (by omega)
      | inr x => exact ⟨x, rfl, hq⟩
    | succ n ih =>
      intro s hn hi
      obtain ⟨r, hr, hq⟩ := hb s hi
      rw [loopO_eq, hr]
      cases r with
      | inl s' => exact ih s' (by have := hq.2; omega) hq.1
      | inr x => exact ⟨x, rfl, hq⟩
  exact fun s hi => key (μ s) s (Nat.le_refl _) hi
/-! NUMBERS: an int is told by an integer -/
def ii (z : Int) : Int32 := Int32.ofInt z
def jj (z : Int) : Int64 := Int64.ofInt z
def R32 (z : Int) : Prop := -2147483648 ≤ z ∧ z < 2147483648
theorem ii_lit (n : Nat) : (OfNat.ofNat n : Int32) = ii (n : Int) := by
  unfold ii
  apply Int32.toInt_inj.mp
  rw [Int32.toInt_ofInt]
  show (Int32.ofNat n).toInt = _
  rw [Int32.toInt_ofNat']
theorem ii_neg1 : (-1 : Int32) = ii (-1) := by decide
theorem ii_toInt {z : Int} (h : R32 z) : (ii z).toInt = z := Int32.toInt_ofInt_of_le (by have := h.1; simpa using this) (by have := h.2; simpa using this)
theorem ii_inv (x : Int32) : ii x.toInt = x := Int32.ofInt_toInt x
theorem R32_toInt (x : Int32) : R32 x.toInt := ⟨by have := Int32.le_toInt x; simpa using this, by have := Int32.toInt_lt x; simpa using this⟩
theorem ii_add (a b : Int) : ii a + ii b = ii (a + b) := (Int32.ofInt_add a b).symm
theorem ii_sub (a b : Int) : ii a - ii b = ii (a - b) := (Int32.ofInt_sub a b).symm
theorem ii_mul (a b : Int) : ii a * ii b = ii (a * b) := (Int32.ofInt_mul a b).symm
theorem ii_neg (a : Int) : -ii a = ii (-a) := (Int32.ofInt_neg a).symm
theorem ii_inj {a b : Int} (ha : R32 a) (hb : R32 b) : ii a = ii b ↔ a = b := by
  constructor
  · intro h
    have := congrArg Int32.toInt h
    rwa [ii_toInt ha, ii_toInt hb] at this
  · intro h
    rw [h]
theorem ii_lt {a b : Int} (ha : R32 a) (hb : R32 b) : ii a < ii b ↔ a < b := by rw [Int32.lt_iff_toInt_lt, ii_toInt ha, ii_toInt hb]
theorem ii_le {a b : Int} (ha : R32 a) (hb : R32 b) : ii a ≤ ii b ↔ a ≤ b := by rw [Int32.le_iff_toInt_le, ii_toInt ha, ii_toInt hb]
theorem ii_clamp {a : Int} (ha : R32 a) : (ii a).toNatClampNeg = a.toNat := by
  show (ii a).toInt.toNat = a.toNat
  rw [ii_toInt ha]
theorem ii_div {a b : Int} (ha : R32 a) (hb : R32 b) (hp : 0 < b) : ii a / ii b = ii (a.tdiv b) := by
  apply Int32.toInt_inj.mp
  have hq : R32 (a.tdiv b) := by
    have h1 := ha.1
    have h2 := ha.2
    rcases Int.le_total 0 a with h | h
    · have e := Int.tdiv_nonneg h (Int.le_of_lt hp)
      have e2 := Int.tdiv_le_self b h
      exact ⟨by omega, by omega⟩
    · have e : a.tdiv b = -((-a).tdiv b) := by rw [Int.neg_tdiv]; omega
      have h3 := Int.tdiv_nonneg (show 0 ≤ -a by omega) (Int.le_of_lt hp)
      have h4 := Int.tdiv_le_self b (show 0 ≤ -a by omega)
      exact ⟨by omega, by omega⟩
  rw [ii_toInt hq, Int32.toInt_div, ii_toInt ha, ii_toInt hb]
  have h1 := hq.1
  have h2 := hq.2
  exact Int.bmod_eq_of_le (by simpa using h1) (by simpa using h2)
theorem ii_rem {a b : Int} (ha : R32 a) (hb : R32 b) (hp : 0 < b) : ir (ii a) (ii b) = ii (a.tmod b) := by
  unfold ir
  rw [ii_div ha hb hp, ii_mul, ii_sub]
  congr 1
  have := Int.tmod_add_mul_tdiv a b
  have h2 : b * a.tdiv b = a.tdiv b * b := Int.mul_comm _ _
  omega
theorem nI_ii (n : Nat) : nI n = ii (n : Int) := ii_lit n
theorem vp_in_ii {a : Int} {n : Nat} (ha : R32 a) : vp_in (ii a) n ↔ 0 ≤ a ∧ a < n := by
  unfold vp_in
  rw [ii_clamp ha, show (0 : Int32) = ii 0 from rfl, ii_lt ha ⟨by omega, by omega⟩]
  omega
/-! MEMORY: reads behind writes -/
section
variable {M : Mem} {a k b j n c : Nat} {v : Int32} {w : Int64} {r : Option Nat}
theorem mI_wI : mI (wI M a k v) b j = if b = a ∧ j = k then v else mI M b j := by
  show (va_up (mI M) a (upd (mI M a) k v)) b j = _
  unfold va_up
  by_cases h : b = a
  · subst h
    by_cases h2 : j = k
    · subst h2; simp [upd]
    · simp [upd, h2]
  · simp [h]
theorem mI_wIs : mI (wI M a k v) a k = v := by rw [mI_wI, if_pos ⟨rfl, rfl⟩]
theorem mI_wI_row (h : b ≠ a) : mI (wI M a k v) b = mI M b := if_neg h
theorem mI_wI_ne (h : j ≠ k) : mI (wI M a k v) b j = mI M b j := by rw [mI_wI, if_neg (fun q => h q.2)]
theorem mJ_wI : mJ (wI M a k v) = mJ M := rfl
theorem mR_wI : mR (wI M a k v) = mR M := rfl
theorem mK_wI : mK (wI M a k v) = mK M := rfl
theorem mL_wI : mL (wI M a k v) = mL M := rfl
theorem mn_wI : mn (wI M a k v) = mn M := rfl
theorem mz_wI : mz (wI M a k v) = mz M := rfl
theorem ok_wI : okO (wI M a k v) c b = okO M c b := rfl
theorem mI_wJ : mI (wJ M a k w) = mI M := rfl
theorem mJ_wJ : mJ (wJ M a k w) b j = if b = a ∧ j = k then w else mJ M b j := by
  show (va_up (mJ M) a (vp_updL (mJ M a) k w)) b j = _
  unfold va_up
  by_cases h : b = a
  · subst h
    by_cases h2 : j = k
    · subst h2; simp [vp_updL]
    · simp [vp_updL, h2]
  · simp [h]
theorem mR_wJ : mR (wJ M a k w) = mR M := rfl
theorem mK_wJ : mK (wJ M a k w) = mK M := rfl
theorem mL_wJ : mL (wJ M a k w) = mL M := rfl
theorem mn_wJ : mn (wJ M a k w) = mn M := rfl
theorem mz_wJ : mz (wJ M a k w) = mz M := rfl
theorem ok_wJ : okO (wJ M a k w) c b = okO M c b := rfl
theorem mI_wR : mI (wR M a k r) = mI M := rfl
theorem mJ_wR : mJ (wR M a k r) = mJ M := rfl
theorem mR_wR : mR (wR M a k r) b j = if b = a ∧ j = k then r else mR M b j := by
  show (va_up (mR M) a (va_up (mR M a) k r)) b j = _
  unfold va_up
  by_cases h : b = a
  · subst h
    by_cases h2 : j = k
    · subst h2; simp
    · simp [h2]
  · simp [h]
theorem mK_wR : mK (wR M a k r) = mK M := rfl
theorem mL_wR : mL (wR M a k r) = mL M := rfl
theorem mn_wR : mn (wR M a k r) = mn M := rfl
theorem mz_wR : mz (wR M a k r) = mz M := rfl
theorem ok_wR : okO (wR M a k r) c b = okO M c b := rfl
end
/-! FRAMES: only the places in S change, no reference but those in T; nothing new -/
def Fr (S : Nat → Nat → Prop) (M M' : Mem) : Prop := mn M' = mn M ∧ mz M' = mz M ∧ mK M' = mK M ∧ mL M' = mL M ∧ mR M' = mR M ∧ ∀ a k, ¬ S a k → mI M' a k = mI M a k ∧ mJ M' a k = mJ M a k
theorem Fr.rf {S : Nat → Nat → Prop} {M : Mem} : Fr S M M := ⟨rfl, rfl, rfl, rfl, rfl, fun _ _ _ => ⟨rfl, rfl⟩⟩
theorem Fr.tr {S : Nat → Nat → Prop} {M M1 M2 : Mem} (h : Fr S M M1) (h2 : Fr S M1 M2) : Fr S M M2 := ⟨h2.1.trans h.1, h2.2.1.trans h.2.1, h2.2.2.1.trans h.2.2.1, h2.2.2.2.1.trans h.2.2.2.1, h2.2.2.2.2.1.trans h.2.2.2.2.1, fun a k hs => ⟨(h2.2.2.2.2.2 a k hs).1.trans (h.2.2.2.2.2 a k hs).1, (h2.2.2.2.2.2 a k hs).2.trans (h.2.2.2.2.2 a k hs).2⟩⟩
theorem Fr.up {S S' : Nat → Nat → Prop} {M M1 : Mem} (h : Fr S M M1) (hs : ∀ a k, S a k → S' a k) : Fr S' M M1 := ⟨h.1, h.2.1, h.2.2.1, h.2.2.2.1, h.2.2.2.2.1, fun a k hn => h.2.2.2.2.2 a k (fun q => hn (hs a k q))⟩
theorem Fr.wI {S : Nat → Nat → Prop} {M M1 : Mem} {a k : Nat} {v : Int32} (h : Fr S M M1) (hs : S a k) : Fr S M (wI M1 a k v) := by
  refine h.tr ⟨rfl, rfl, rfl, rfl, rfl, fun b j hn => ⟨?_, rfl⟩⟩
  rw [mI_wI, if_neg]
  rintro ⟨rfl, rfl⟩
  exact hn hs
theorem Fr.wJ {S : Nat → Nat → Prop} {M M1 : Mem} {a k : Nat} {v : Int64} (h : Fr S M M1) (hs : S a k) : Fr S M (wJ M1 a k v) := by
  refine h.tr ⟨rfl, rfl, rfl, rfl, rfl, fun b j hn => ⟨rfl, ?_⟩⟩
  rw [mJ_wJ, if_neg]
  rintro ⟨rfl, rfl⟩
  exact hn hs
theorem Fr.i {S : Nat → Nat → Prop} {M M1 : Mem} (h : Fr S M M1) {a k : Nat} (hs : ¬ S a k) : mI M1 a k = mI M a k := (h.2.2.2.2.2 a k hs).1
theorem Fr.j {S : Nat → Nat → Prop} {M M1 : Mem} (h : Fr S M M1) {a k : Nat} (hs : ¬ S a k) : mJ M1 a k = mJ M a k := (h.2.2.2.2.2 a k hs).2
