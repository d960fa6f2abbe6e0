/-! the reference's tokens of a text, and what it looks at while it works them out -/
def rcT : List Nat := [1, 2, 19, 26, 3, 4, 5, 6, 25, 20, 24, 21, 22, 23, 7, 8, 9, 10, 11, 12, 13, 14, 15, 16, 17, 18]
def rc (t : Nat) : Nat := if t < 256 then 100 + t else if t < 258 then 0 else if t < 284 then rcT.getD (t - 258) 0 else 50
theorem rc_w : ∀ i, i < 26 → rcT.getD i 0 ≤ 26 := by decide
theorem rc_le (t : Nat) : rc t ≤ 355 := by
  unfold rc
  split
  · omega
  split
  · omega
  split
  · have := rc_w (t - 258) (by omega)
    omega
  · omega
theorem rc_byte {t c : Nat} (hc : c < 256) : rc t = 100 + c ↔ t = c := by
  unfold rc
  split
  · omega
  split
  · omega
  split
  · have := rc_w (t - 258) (by omega)
    omega
  · omega
theorem rc_word0 : ∀ i, i < 26 → ∀ j, j < 26 → rcT.getD i 0 = rcT.getD j 0 → i = j := by decide
theorem rc_pos0 : ∀ i, i < 26 → 1 ≤ rcT.getD i 0 := by decide
theorem rc_word {t w : Nat} (hw : 258 ≤ w ∧ w < 284) : rc t = rc w ↔ t = w := by
  have e : rc w = rcT.getD (w - 258) 0 := by
    unfold rc
    rw [if_neg (by omega), if_neg (by omega), if_pos (by omega)]
  have h1 := rc_w (w - 258) (by omega)
  have h2 := rc_pos0 (w - 258) (by omega)
  rw [e]
  unfold rc
  split
  · omega
  split
  · omega
  split
  · constructor
    · intro h
      have := rc_word0 (t - 258) (by omega) (w - 258) (by omega) h
      omega
    · intro h
      rw [h]
  · omega
theorem rc_num {t : Nat} : rc t = 50 ↔ 284 ≤ t := by
  unfold rc
  split
  · omega
  split
  · omega
  split
  · have := rc_w (t - 258) (by omega)
    omega
  · omega
theorem rc_256 : rc 256 = 0 := by decide
/-- the words' values that the reference reads, in ORDERS -/
def WHO (M : Mem) (W : Nat → Int32) : Prop := (∀ i, i < 4 → mI M 62 i = W i) ∧ ∃ n, n ≤ 12 ∧ mI M 49 56 = nI n ∧ ∀ h, h < 12 → (h < n → ∃ l, DL l ∧ mI M 49 (20 + 3 * h) = nI (num l) ∧ W (4 + h) = nI l.length ∧ ∀ t, t < 6 → W (16 + h * 6 + t) = nI (l.count t)) ∧ (n ≤ h → W (4 + h) = -1 ∧ ∀ t, t < 6 → W (16 + h * 6 + t) = -1)
def RE (M : Mem) (T : Nat → Nat) (len : Nat) (ord : Bool) (B : Nat) (W : Nat → Int32) : Prop := LayM M ∧ B + len ≤ 2800 ∧ mI M 47 27 = nI (B + len) ∧ (∀ j, j < len → mI M 49 (66 + B + j) = nI (rc (T j)) ∧ (1000 ≤ T j → T j ≤ 2000 → mI M 49 (2866 + B + j) = nI (T j - 1000))) ∧ mI M 47 29 = b1 ord ∧ (if ord then WHO M W else ∀ i, i < 8 → mI M 61 i = W i)
def Sgo (a k : Nat) : Prop := a = 47 ∧ (k = 26 ∨ k = 28)
theorem RE.fr {M M1 : Mem} {T : Nat → Nat} {len : Nat} {ord : Bool} {B : Nat} {W : Nat → Int32} (h : RE M T len ord B W) (hF : Fr Sgo M M1) : RE M1 T len ord B W := by
  obtain ⟨h1, h2, h3, h4, h5, h6⟩ := h
  have e : ∀ a k, (a ≠ 47 ∨ (k ≠ 26 ∧ k ≠ 28)) → mI M1 a k = mI M a k := fun a k q => hF.i (by unfold Sgo; omega)
  refine ⟨h1.fr hF, h2, by rw [e 47 27 (by omega)]; exact h3, fun j hj => ?_, by rw [e 47 29 (by omega)]; exact h5, ?_⟩
  · rw [e 49 _ (by omega), e 49 _ (by omega)]
    exact h4 j hj
  · cases ord with
    | false =>
      intro i hi
      rw [e 61 i (by omega)]
      exact h6 i hi
    | true =>
      obtain ⟨g1, n, g2, g3, g4⟩ := h6
      refine ⟨fun i hi => by rw [e 62 i (by omega)]; exact g1 i hi, n, g2, by rw [e 49 _ (by omega)]; exact g3, fun h hh => ?_⟩
      rw [e 49 _ (by omega)]
      exact g4 h hh
section
variable {M : Mem} {T : Nat → Nat} {len : Nat} {ord : Bool} {B : Nat} {W : Nat → Int32}
theorem r_codeAt (hT : ∀ j, len ≤ j → T j = 256) (h : RE M T len ord B W) {k : Nat} (hk : k ≤ len) : f_X12_codeAt M 47 (nI (B + k)) = some (nI (rc (T k))) := by
  obtain ⟨h1, h2, h3, h4, h5, h6⟩ := h
  unfold f_X12_codeAt
  unfold LayM at h1
  simp only [h1, grd_T, Option.bind_some, h3]
  by_cases hkl : k < len
  · rw [if_neg (by rw [nleI (by omega) (by omega)]; omega), show (66 : Int32) = nI 66 from rfl, nadd, grd_y ((nvp (by omega)).mpr (by omega)), nclampI (by omega), ← Nat.add_assoc, (h4 k hkl).1]
  · rw [if_pos (by rw [nleI (by omega) (by omega)]; omega), hT k (by omega), rc_256]
    rfl
theorem Sgo26 : Sgo 47 26 := ⟨rfl, Or.inl rfl⟩
theorem Sgo28 : Sgo 47 28 := ⟨rfl, Or.inr rfl⟩
theorem r_passes (hT : ∀ j, len ≤ j → T j = 256) (h : RE M T len ord B W) {k c : Nat} (hk : k ≤ len) (hg : mI M 47 26 = nI (B + k)) (hc : c < 400) : f_X12_passes0 M 47 (nI c) = some (if rc (T k) = c then (wI M 47 26 (nI (B + (k + 1))), 1) else (M, 0)) := by
  have hc1 := r_codeAt hT h hk
  have h1 := h.1
  have hr := rc_le (T k)
  unfold f_X12_passes0
  unfold LayM at h1
  simp only [h1, grd_T, hg, hc1, Option.bind_some, bv]
  by_cases e : rc (T k) = c
  · rw [if_pos ((neqI (by omega) (by omega)).mpr e), if_pos e, if_neg (by decide), grd_y (show bl 1 from rfl), nsucc]
    rfl
  · rw [if_neg (fun q => e ((neqI (by omega) (by omega)).mp q)), if_neg e, if_pos trivial, grd_y (show bl 0 from rfl)]
/-- what is told behind working a SUM out: alive or not, broken or not -/
def RQ (M : Mem) (live : Bool) (v : Option Int) (q : Mem × Int64) : Prop := if live = true ∧ mI M 47 28 = 0 then (match v with
  | some x => q.2 = jj x ∧ mI q.1 47 28 = 0
  | none => q.2 = 0 ∧ mI q.1 47 28 = 1) else q.2 = 0 ∧ mI q.1 47 28 = mI M 47 28
def RG (M : Mem) (live : Bool) (B k : Nat) (v : Option Int) (q : Mem × Int64) : Prop := Fr Sgo M q.1 ∧ mI q.1 47 26 = nI (B + k) ∧ RQ M live v q
def RSV (F : Mem → Nat → Int32 → Option (Mem × Int64)) (T : Nat → Nat) (len : Nat) (ord : Bool) (k k2 : Nat) (val : (Nat → Int32) → Option Int) : Prop := ∀ M B W, RE M T len ord B W → mI M 47 26 = nI (B + k) → (mI M 47 28 = 0 ∨ mI M 47 28 = 1) → ∀ live : Bool, TT (F M 47 (b1 live)) (RG M live B k2 (val W))
theorem r_bounded (hM : LayM M) (hb : mI M 47 28 = 0 ∨ mI M 47 28 = 1) {live : Bool} {z : Int} (hz : R64 z) (hd : ¬ (live = true ∧ mI M 47 28 = 0) → mI M 47 28 = 1 ∨ z = 0) : ∃ q, f_X12_bounded M 47 (jj z) (b1 live) = some q ∧ Fr Sgo M q.1 ∧ mI q.1 47 26 = mI M 47 26 ∧ RQ M live (if 1000000000 < z ∨ z < -1000000000 then none else some z) q := by
  unfold f_X12_bounded
  unfold LayM at hM
  simp only [hM, grd_T, bv, ok_wI]
  have e1 := lgc1 hz R64_G
  have e2 := lgc2 hz R64_g
  rw [show (1000000000 : Int64) = jj 1000000000 from rfl, jj_neg]
  cases live with
  | false =>
    rw [if_pos (show b1 false = 0 from rfl)]
    rcases hb with hb | hb
    · rw [if_pos hb]
      rcases hd (fun q => by cases q.1) with w | w
      · rw [hb] at w
        exact absurd w (by decide)
      · exact ⟨_, rfl, Fr.rf, rfl, by unfold RQ; rw [if_neg (fun q => by cases q.1)]; exact ⟨by rw [w]; rfl, rfl⟩⟩
    · rw [if_neg (by rw [hb]; decide)]
      exact ⟨_, rfl, Fr.rf, rfl, by unfold RQ; rw [if_neg (fun q => by cases q.1)]; exact ⟨rfl, rfl⟩⟩
  | true =>
    rw [if_neg (show ¬ b1 true = 0 by decide)]
    rcases hb with hb | hb
    · by_cases q1 : 1000000000 < z
      · rw [if_pos (e1.mpr q1), if_neg (by rw [mI_wIs]; decide)]
        exact ⟨_, rfl, Fr.rf.wI Sgo28, mI_wI_ne (by decide), by unfold RQ; rw [if_pos ⟨rfl, hb⟩, if_pos (Or.inl q1)]; exact ⟨rfl, mI_wIs⟩⟩
      · rw [if_neg (fun q => q1 (e1.mp q))]
        by_cases q2 : -1000000000 ≤ z
        · rw [if_pos (e2.mpr q2), if_pos hb]
          exact ⟨_, rfl, Fr.rf, rfl, by unfold RQ; rw [if_pos ⟨rfl, hb⟩, if_neg (by omega)]; exact ⟨rfl, hb⟩⟩
        · rw [if_neg (fun q => q2 (e2.mp q)), if_neg (by rw [mI_wIs]; decide)]
          exact ⟨_, rfl, Fr.rf.wI Sgo28, mI_wI_ne (by decide), by unfold RQ; rw [if_pos ⟨rfl, hb⟩, if_pos (by omega)]; exact ⟨rfl, mI_wIs⟩⟩
    · have nl : ¬ (true = true ∧ mI M 47 28 = 0) := fun q => by rw [hb] at q; exact absurd q.2 (by decide)
      have dead : ∀ M2, (M2 = M ∨ M2 = wI M 47 28 1) → ∃ q, (if mI M2 47 28 = 0 then (some (M2, jj z) : Option (Mem × Int64)) else some (M2, 0)) = some q ∧ Fr Sgo M q.1 ∧ mI q.1 47 26 = mI M 47 26 ∧ RQ M true (if 1000000000 < z ∨ z < -1000000000 then none else some z) q := by
        rintro M2 (rfl | rfl)
        · rw [if_neg (by rw [hb]; decide)]
          exact ⟨_, rfl, Fr.rf, rfl, by unfold RQ; rw [if_neg nl]; exact ⟨rfl, rfl⟩⟩
        · rw [if_neg (by rw [mI_wIs]; decide)]
          exact ⟨_, rfl, Fr.rf.wI Sgo28, mI_wI_ne (by decide), by unfold RQ; rw [if_neg nl]; exact ⟨rfl, by rw [hb]; exact mI_wIs⟩⟩
      by_cases q1 : 1000000000 < z
      · rw [if_pos (e1.mpr q1)]
        exact dead _ (Or.inr rfl)
      · rw [if_neg (fun q => q1 (e1.mp q))]
        by_cases q2 : -1000000000 ≤ z
        · rw [if_pos (e2.mpr q2)]
          exact dead _ (Or.inl rfl)
        · rw [if_neg (fun q => q2 (e2.mp q))]
          exact dead _ (Or.inr rfl)
end
