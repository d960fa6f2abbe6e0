/-! tastings on both sides -/
theorem tld_y {n b : Nat} (hn : n ≤ 12) (hb0 : 1 ≤ b) (hb : b < 2 ^ n) : 1 ≤ nI b ∧ nI b ≤ nI (2 ^ n) - 1 := by
  have := pw12 hn
  rw [show (1 : Int32) = nI 1 from rfl, nsub (by omega), nleI (by omega) (by omega), nleI (by omega) (by omega)]
  omega
def pcN (b : Nat) : Nat → Nat
  | 0 => 0
  | i + 1 => pcN b i + b / 2 ^ i % 2
def pc (b : Nat) : Nat := pcN b 12
theorem pcN_le (b : Nat) : ∀ i, pcN b i ≤ i
  | 0 => Nat.le_refl 0
  | i + 1 => by
    have := pcN_le b i
    rw [pcN]
    omega
theorem pc_le (b : Nat) : pc b ≤ 12 := pcN_le b 12
theorem pc_6 : ∀ b, b < 64 → pc b ≤ 6 := by decide
set_option maxRecDepth 100000 in
theorem bc64 : ∀ b, b < 64 → f_J6_bitCount_0f7a4 (nI b) = some (nI (pc b)) := by decide +kernel
theorem r_ones {b : Nat} (hb : b < 4096) : f_X12_ones (nI b) = some (nI (pc b)) := by
  apply TT.is
  unfold f_X12_ones
  rw [TT_bind]
  simp only [TT_some]
  refine TT_for 12 (fun k s => s = (nI (pcN b k), nI k)) ?_ (Nat.zero_le 12) rfl
  rintro k _ hk rfl
  rw [show (12 : Int32) = nI 12 from rfl, TT_if, nleI (by omega) (by omega)]
  refine ⟨fun w => ?_, fun w => ?_⟩
  · obtain rfl : k = 12 := by omega
    rw [TT_some]
    rfl
  · simp only [bv, nsucc]
    rw [and1 _ _ (by omega) (by omega), nadd, TT_some]
    exact ⟨by omega, rfl⟩
/-- the best set among those ahead of k: none, or the set and in how many ways -/
def bsT (G : Nat → Bool) : Nat → Option (Nat × Nat)
  | 0 => none
  | k + 1 => if G k then (match bsT G k with
    | none => some (k, 1)
    | some (s, w) => if pc k < pc s then some (k, 1) else if pc k = pc s then some (s, w + 1) else some (s, w)) else bsT G k
theorem bsT_lt {G : Nat → Bool} : ∀ k s w, bsT G k = some (s, w) → s < k ∧ w ≤ k
  | 0, s, w, h => by cases h
  | k + 1, s, w, h => by
    rw [bsT] at h
    split at h
    · split at h
      · cases h; omega
      · rename_i s2 w2 e
        have := bsT_lt k s2 w2 e
        split at h
        · cases h; omega
        · split at h <;> (cases h; omega)
    · have := bsT_lt k s w h
      omega
def bsC (o : Option (Nat × Nat)) : Int32 × Int32 × Int32 := match o with
  | none => (7, 0, 0)
  | some (s, w) => (nI (pc s), nI s, nI w)
def bsR (o : Option (Nat × Nat)) : Int32 × Int32 := match o with
  | none => (-1, 0)
  | some (s, w) => (nI s, nI w)
section
variable {M : Mem} {n : Nat} {mo : Nat → Option Nat} {yr : Nat → Nat} {di : Nat → List Nat}
def tsG (n : Nat) (di : Nat → List Nat) (b set : Nat) : Bool := grp di b set n == grp di b 63 n
def tsA (n : Nat) (di : Nat → List Nat) (b : Nat) (p : Int32) : Int32 := match bsT (tsG n di b) 64 with
  | none => -1
  | some (s, w) => if p = 0 then nI (pc s) else if p = 1 then nI s else if p = 2 then nI w else nI (grp di b 63 n)
theorem bsT_some (n : Nat) (di : Nat → List Nat) (b : Nat) : ∃ s w, bsT (tsG n di b) 64 = some (s, w) := by
  have h : tsG n di b 63 = true := by unfold tsG; simp
  rw [show (64 : Nat) = 63 + 1 from rfl, bsT, if_pos h]
  split
  · exact ⟨_, _, rfl⟩
  · split
    · exact ⟨_, _, rfl⟩
    · split <;> exact ⟨_, _, rfl⟩
theorem c_tastings (hC : LayC M) (hv : HSV M n mo yr di) {b : Nat} (hb0 : 1 ≤ b) (hb : b < 2 ^ n) (p : Int32) (hp : 0 ≤ p ∧ p ≤ 3) : f_X11_tastings M 0 (nI b) p = some (tsA n di b p) := by
  have hC0 := hC
  have hv0 := hv
  obtain ⟨hn, h56, h8, hf⟩ := hv
  have h12 := pw12 hn
  have hg : ∀ set, grp di b set n ≤ 12 := fun set => Nat.le_trans grp_le hn
  apply TT.is
  unfold f_X11_tastings
  unfold LayC at hC
  simp only [hC, grd_T, Option.bind_some]
  rw [c_toldOf hC0 hn h8, Option.bind_some, if_pos (tld_y hn hb0 hb)]
  rw [if_neg (by rw [show (0 : Int32) = nI 0 from rfl, neqI (by omega) (by omega)]; omega), if_neg (Int32.not_lt.mpr hp.1), if_pos hp.2, show (63 : Int32) = nI 63 from rfl, c_groups hC0 hv0 (by omega) (by omega), Option.bind_some, TT_bind]
  refine TT.mono (Q := fun x => x = bsC (bsT (tsG n di b) 64)) ?_ ?_
  · refine TT_for 64 (fun k s => s = ((bsC (bsT (tsG n di b) k)).1, (bsC (bsT (tsG n di b) k)).2.1, (bsC (bsT (tsG n di b) k)).2.2, nI k)) ?_ (Nat.zero_le 64) rfl
    rintro k _ hk rfl
    rw [show (64 : Int32) = nI 64 from rfl, TT_if, nleI (by omega) (by omega)]
    refine ⟨fun w => ?_, fun w => ?_⟩
    · obtain rfl : k = 64 := by omega
      rw [TT_some]
      rfl
    · have hpk := pc_6 k (by omega)
      have hgk := hg k
      have hg6 := hg 63
      simp only [bv, nsucc]
      rw [bc64 k (by omega), Option.bind_some, c_groups hC0 hv0 (by omega) (by omega), Option.bind_some]
      have eG : tsG n di b k = true ↔ grp di b k n = grp di b 63 n := by unfold tsG; simp
      rw [bsT]
      cases hB : bsT (tsG n di b) k with
      | none =>
        simp only [show bsC none = (7, 0, 0) from rfl]
        rw [show (7 : Int32) = nI 7 from rfl, if_neg (by rw [nltI (by omega) (by omega)]; omega), TT_if, neqI (by omega) (by omega), ← eG]
        refine ⟨fun w2 => ?_, fun w2 => ?_⟩
        · rw [if_pos w2, if_neg (show ¬ nI 7 ≤ nI (pc k) by rw [nleI (by omega) (by omega)]; omega), if_neg (show ¬ nI 7 ≤ nI (pc k) by rw [nleI (by omega) (by omega)]; omega), TT_some]
          exact ⟨by omega, rfl⟩
        · rw [if_neg w2, TT_some]
          exact ⟨by omega, rfl⟩
      | some sw =>
        obtain ⟨s, w0⟩ := sw
        obtain ⟨hs1, hs2⟩ := bsT_lt k s w0 hB
        have hps := pc_6 s (by omega)
        simp only [show bsC (some (s, w0)) = (nI (pc s), nI s, nI w0) from rfl]
        rw [TT_if, nltI (by omega) (by omega)]
        refine ⟨fun w1 => ?_, fun w1 => ?_⟩
        · rw [TT_some]
          refine ⟨by omega, ?_⟩
          rw [if_neg (show ¬ pc k < pc s by omega), if_neg (show ¬ pc k = pc s by omega), ite_self]
          rfl
        · rw [TT_if, neqI (by omega) (by omega), ← eG]
          refine ⟨fun w2 => ?_, fun w2 => ?_⟩
          · rw [if_pos w2]
            by_cases w3 : pc s ≤ pc k
            · rw [if_pos ((nleI (by omega) (by omega)).mpr w3), if_pos ((nleI (by omega) (by omega)).mpr w3), TT_some]
              refine ⟨by omega, ?_⟩
              have e : pc k = pc s := by omega
              rw [if_neg (by omega), if_pos e, e]
              show _ = (nI (pc s), nI s, nI (w0 + 1), nI (k + 1))
              rw [← nsucc w0]
            · rw [if_neg (fun w4 => w3 ((nleI (by omega) (by omega)).mp w4)), if_neg (fun w4 => w3 ((nleI (by omega) (by omega)).mp w4)), TT_some]
              refine ⟨by omega, ?_⟩
              rw [if_pos (by omega)]
              rfl
          · rw [if_neg w2, TT_some]
            exact ⟨by omega, rfl⟩
  · rintro _ rfl
    obtain ⟨s, w, e⟩ := bsT_some n di b
    rw [e, sw3]
    unfold tsA
    rw [e]
    simp only [bsC]
    rw [TT_if, TT_if, TT_if, TT_some, TT_some, TT_some, TT_some]
    exact ⟨fun q => by rw [if_pos q], fun q => ⟨fun q2 => by rw [if_neg q, if_pos q2], fun q2 => ⟨fun q3 => by rw [if_neg q, if_neg q2, if_pos q3], fun q3 => by rw [if_neg q, if_neg q2, if_neg q3]⟩⟩⟩
theorem r_tastings (hM : LayM M) (hv : HSV M n mo yr di) {b : Nat} (hb0 : 1 ≤ b) (hb : b < 2 ^ n) (p : Int32) (hp : 0 ≤ p ∧ p ≤ 3) : f_X12_tastings M 47 (nI b) p = some (tsA n di b p) := by
  have hM0 := hM
  have hv0 := hv
  obtain ⟨hn, h56, h8, hf⟩ := hv
  have h12 := pw12 hn
  have hg : ∀ set, grp di b set n ≤ 12 := fun set => Nat.le_trans grp_le hn
  apply TT.is
  unfold f_X12_tastings
  unfold LayM at hM
  simp only [hM, grd_T, Option.bind_some]
  rw [r_areHouses hM0 hn h56, Option.bind_some, if_pos (tld_y hn hb0 hb), if_neg (by decide), lies_bind, if_pos hp, show (63 : Int32) = nI 63 from rfl, r_groups hM0 hv0 (by omega) (by omega), Option.bind_some, TT_bind]
  refine TT.mono (Q := fun x => x = bsR (bsT (tsG n di b) 64)) ?_ ?_
  · refine TT_for 64 (fun k s => s = ((bsR (bsT (tsG n di b) k)).1, (bsR (bsT (tsG n di b) k)).2, nI k)) ?_ (Nat.zero_le 64) rfl
    rintro k _ hk rfl
    rw [show (64 : Int32) = nI 64 from rfl, TT_if, nleI (by omega) (by omega)]
    refine ⟨fun w => ?_, fun w => ?_⟩
    · obtain rfl : k = 64 := by omega
      rw [TT_some]
      rfl
    · have hpk := pc_6 k (by omega)
      have hgk := hg k
      have hg6 := hg 63
      have hmo : grp di b k n ≤ grp di b 63 n := grp_mono
      simp only [bv, nsucc]
      rw [r_groups hM0 hv0 (by omega) (by omega), Option.bind_some]
      have eG : tsG n di b k = true ↔ ¬ grp di b k n < grp di b 63 n := by
        unfold tsG
        rw [beq_iff_eq]
        omega
      rw [TT_if, nltI (by omega) (by omega), bsT, r_ones (by omega)]
      refine ⟨fun w1 => ?_, fun w1 => ?_⟩
      · rw [if_neg (fun w2 => eG.mp w2 w1), TT_some]
        exact ⟨by omega, rfl⟩
      · rw [if_pos (eG.mpr w1)]
        cases hB : bsT (tsG n di b) k with
        | none =>
          show TT (if (-1 : Int32) = -1 then _ else _) _
          rw [if_pos rfl]
          show TT (if (-1 : Int32) = -1 then _ else _) _
          rw [if_pos rfl, TT_some]
          exact ⟨by omega, rfl⟩
        | some sw =>
          obtain ⟨s, w0⟩ := sw
          obtain ⟨hs1, hs2⟩ := bsT_lt k s w0 hB
          have hps := pc_6 s (by omega)
          show TT (if nI s = -1 then _ else _) _
          rw [if_neg (nne_m1 (by omega))]
          show TT (Option.bind _ (fun q46 => Option.bind (f_X12_ones (nI s)) _)) _
          rw [r_ones (b := s) (by omega)]
          simp only [Option.bind_some]
          rw [TT_if, nleI (by omega) (by omega)]
          refine ⟨fun w2 => ?_, fun w2 => ?_⟩
          · show TT (if nI s = -1 then _ else _) _
            rw [if_neg (nne_m1 (by omega))]
            show TT (Option.bind (f_X12_ones (nI s)) _) _
            rw [r_ones (b := s) (by omega), Option.bind_some, TT_if, nleI (by omega) (by omega)]
            refine ⟨fun w3 => ?_, fun w3 => ?_⟩
            · rw [TT_some]
              refine ⟨by omega, ?_⟩
              rw [if_neg (by omega), if_pos (by omega)]
              show (nI s, nI w0 + 1, nI (k + 1)) = (nI s, nI (w0 + 1), nI (k + 1))
              rw [nsucc]
            · rw [TT_some]
              refine ⟨by omega, ?_⟩
              rw [if_pos (by omega)]
              rfl
          · rw [TT_some]
            refine ⟨by omega, ?_⟩
            rw [if_neg (by omega), if_neg (by omega)]
  · rintro _ rfl
    obtain ⟨s, w, e⟩ := bsT_some n di b
    have hs := (bsT_lt 64 s w e).1
    rw [e]
    unfold tsA
    rw [e]
    simp only [bsR]
    rw [r_ones (by omega), Option.bind_some, TT_if, TT_if, TT_if, TT_some, TT_some, TT_some, TT_some]
    exact ⟨fun q => by rw [if_pos q], fun q => ⟨fun q2 => by rw [if_neg q, if_pos q2], fun q2 => ⟨fun q3 => by rw [if_neg q, if_neg q2, if_pos q3], fun q3 => by rw [if_neg q, if_neg q2, if_neg q3]⟩⟩⟩
end
theorem both_tastings {M : Mem} (h : REL M) (p q : Int32) : ∃ x, f_X11_tastings M 0 p q = some x ∧ f_X12_tastings M 47 p q = some x := by
  obtain ⟨n, mo, yr, di, hv⟩ := h.hsv
  obtain ⟨hn, h56, h8, hf⟩ := hv
  by_cases hq : 0 ≤ q ∧ q ≤ 3
  · rcases tld_or hn p with ⟨b, h1, h2, rfl⟩ | hp
    · exact ⟨_, c_tastings h.1 ⟨hn, h56, h8, hf⟩ h1 h2 q hq, r_tastings h.2.1 ⟨hn, h56, h8, hf⟩ h1 h2 q hq⟩
    · refine ⟨-1, ?_, ?_⟩
      · have hC := h.1
        unfold LayC at hC
        unfold f_X11_tastings
        simp only [hC, grd_T, Option.bind_some]
        rw [c_toldOf h.1 hn h8, if_neg hp, Option.bind_some, if_pos rfl]
      · have hM := h.2.1
        unfold LayM at hM
        unfold f_X12_tastings
        simp only [hM, grd_T]
        rw [r_areHouses h.2.1 hn h56, if_neg hp, Option.bind_some, if_pos rfl]
  · refine ⟨-1, ?_, ?_⟩
    · have hC := h.1
      unfold LayC at hC
      unfold f_X11_tastings
      simp only [hC, grd_T, Option.bind_some]
      rw [c_toldOf h.1 hn h8, Option.bind_some]
      generalize (if 1 ≤ p ∧ p ≤ nI (2 ^ n) - 1 then p else 0) = z
      split
      · rfl
      · split
        · rfl
        · rename_i w
          rw [if_neg (fun w2 => hq ⟨Int32.not_lt.mp w, w2⟩)]
    · have hM := h.2.1
      unfold LayM at hM
      unfold f_X12_tastings
      simp only [hM, grd_T]
      rw [r_areHouses h.2.1 hn h56, Option.bind_some, lies_bind, if_neg hq, ite_self]
