/-! facts of HOUSES on both sides; daughters, changed back -/
theorem nr_inj : ∀ r s : List Nat, (∀ d ∈ r, d < 6) → (∀ d ∈ s, d < 6) → nr r = nr s → r = s
  | [], s, _, _, e => (nr_zero e.symm).symm
  | d :: r, [], _, _, e => by
    have : nr (d :: r) = 10 * nr r + (d + 1) := rfl
    have e2 : nr [] = 0 := rfl
    omega
  | d :: r, d2 :: s, h1, h2, e => by
    obtain ⟨a1, a2, -, -⟩ := nr_div (t := r) (h1 d List.mem_cons_self)
    obtain ⟨b1, b2, -, -⟩ := nr_div (t := s) (h2 d2 List.mem_cons_self)
    rw [e] at a1 a2
    have e3 : d = d2 := by omega
    subst e3
    rw [nr_inj r s (fun x hx => h1 x (List.mem_cons_of_mem _ hx)) (fun x hx => h2 x (List.mem_cons_of_mem _ hx)) (by omega)]
theorem DL.num {l : List Nat} (h : DL l) : num l ≤ 66666 := h.rev.nr
theorem num_inj {l l2 : List Nat} (h : DL l) (h2 : DL l2) : nI (num l) = nI (num l2) ↔ l = l2 := by
  constructor
  · intro e
    rw [neqI (by have := h.num; omega) (by have := h2.num; omega)] at e
    have := nr_inj _ _ h.rev.2 h2.rev.2 e
    exact List.reverse_inj.mp this
  · rintro rfl
    rfl
theorem rank_inj {l l2 : List Nat} (h : DL l) (h2 : DL l2) : nI (rank l) = nI (rank l2) ↔ l = l2 := by
  constructor
  · intro e
    have a := p_numOf h
    rw [e, p_numOf h2] at a
    exact (num_inj h h2).mp (Option.some.inj a).symm
  · rintro rfl
    rfl
section
variable {M : Mem} {n : Nat} {mo : Nat → Option Nat} {yr : Nat → Nat} {di : Nat → List Nat}
theorem r_mo (hM : LayM M) (hv : HSV M n mo yr di) {h : Nat} (hh : h < n) : f_X12_fact M 47 (nI h) 0 = some (oI (mo h)) := by
  have := hv.1
  rw [show (0 : Int32) = nI 0 from rfl, r_fact hM (by omega) (by omega), Nat.add_zero, (hv.2.2.2 h hh).2.2.2.1]
theorem r_yr (hM : LayM M) (hv : HSV M n mo yr di) {h : Nat} (hh : h < n) : f_X12_fact M 47 (nI h) 1 = some (nI (yr h)) := by
  have := hv.1
  rw [show (1 : Int32) = nI 1 from rfl, r_fact hM (by omega) (by omega), show 18 + 3 * h + 1 = 19 + 3 * h by omega, (hv.2.2.2 h hh).2.2.2.2.1]
theorem r_di (hM : LayM M) (hv : HSV M n mo yr di) {h : Nat} (hh : h < n) : f_X12_fact M 47 (nI h) 2 = some (nI (num (di h))) := by
  have := hv.1
  rw [show (2 : Int32) = nI 2 from rfl, r_fact hM (by omega) (by omega), show 18 + 3 * h + 2 = 20 + 3 * h by omega, (hv.2.2.2 h hh).2.2.2.2.2.1]
theorem c_holds (hC : LayC M) (hv : HSV M n mo yr di) {h t : Nat} (hh : h < n) (ht : t < 6) : f_X10_holds M 1 (nI h) (nI t) = some (nI ((di h).count t)) := by
  have := hv.1
  obtain ⟨-, -, hd, -, -, -, -, -, -, e8⟩ := hv.2.2.2 h hh
  unfold f_X10_holds
  unfold LayC at hC
  simp only [hC, grd_T, Option.bind_some]
  rw [grd_y ((nvp (by omega)).mpr (by omega)), nclampI (by omega), e8, holds_n hd ht]
def dau (mo : Nat → Option Nat) (p : Int32) (k : Nat) : Nat := (List.range k).countP (fun g => oI (mo g) = p)
theorem dau_le {p : Int32} {k : Nat} : dau mo p k ≤ k := by
  have := List.countP_le_length (p := fun g => decide (oI (mo g) = p)) (l := List.range k)
  simpa [dau] using this
theorem dau_succ {p : Int32} {k : Nat} : dau mo p (k + 1) = dau mo p k + (if oI (mo k) = p then 1 else 0) := by
  unfold dau
  rw [List.range_succ, List.countP_append, List.countP_singleton]
  by_cases h : oI (mo k) = p <;> simp [h]
theorem c_dau (hC : LayC M) (hv : HSV M n mo yr di) (p : Int32) : f_X10_daughtersOf M 1 p = some (nI (dau mo p n)) := by
  obtain ⟨hn, h56, h8, hh⟩ := hv
  apply TT.is
  unfold f_X10_daughtersOf
  unfold LayC at hC
  rw [TT_bind]
  simp only [hC, grd_T, Option.bind_some, TT_some]
  refine TT_for n (fun k s => s = (nI (dau mo p k), nI k)) ?_ (Nat.zero_le n) rfl
  rintro k _ hk rfl
  simp only [h8]
  rw [TT_if, nleI (by omega) (by omega)]
  refine ⟨fun q => ?_, fun q => ?_⟩
  · rw [TT_some]
    show nI _ = nI _
    rw [show k = n by omega]
  · rw [grd_y ((nvp (by omega)).mpr (by omega)), nclampI (by omega), (hh k (by omega)).2.2.2.2.2.2.1, TT_bvif]
    simp only [bv]
    rw [TT_some]
    refine ⟨by omega, ?_⟩
    rw [dau_succ, ← nadd, ← nadd]
    congr 2
    split <;> rfl
theorem r_dau (hM : LayM M) (hv : HSV M n mo yr di) (p : Int32) : f_X12_daughters M 47 p = some (nI (dau mo p n)) := by
  have hv0 := hv
  have hM0 := hM
  obtain ⟨hn, h56, h8, hh⟩ := hv
  apply TT.is
  unfold f_X12_daughters
  unfold LayM at hM
  rw [TT_bind]
  simp only [hM, grd_T, Option.bind_some, TT_some]
  refine TT_for n (fun k s => s = (nI (dau mo p k), nI k)) ?_ (Nat.zero_le n) rfl
  rintro k _ hk rfl
  rw [show (56 : Int32) = nI 56 from rfl, grd_y ((nvp (by omega)).mpr (by omega)), nclampI (by omega), h56, TT_if, nleI (by omega) (by omega)]
  refine ⟨fun q => ?_, fun q => ?_⟩
  · rw [TT_some]
    show nI _ = nI _
    rw [show k = n by omega]
  · simp only
    rw [r_mo hM0 hv0 (by omega), Option.bind_some, TT_bvif]
    simp only [bv]
    rw [TT_some]
    refine ⟨by omega, ?_⟩
    rw [dau_succ, ← nadd, ← nadd]
    congr 2
    split <;> rfl
/-- how many up the line has the dish d -/
def cbk (mo : Nat → Option Nat) (di : Nat → List Nat) (d : List Nat) : Nat → Option Nat → Nat → Int32
  | 0, _, _ => -1
  | _ + 1, none, _ => -1
  | f + 1, some m, u => if di m = d then nI u else cbk mo di d f (mo m) (u + 1)
theorem cbk_none {d : List Nat} {f u : Nat} : cbk mo di d f none u = -1 := by
  cases f <;> rfl
theorem c_cbk (hC : LayC M) (hv : HSV M n mo yr di) {h : Nat} (hh : h < n) : f_X10_changedBack M 1 (nI h) = some (cbk mo di (di h) 12 (mo h) 1) := by
  have hC0 := hC
  obtain ⟨hn, h56, h8, hf⟩ := hv
  apply TT.is
  unfold f_X10_changedBack
  unfold LayC at hC
  simp only [hC, grd_T, Option.bind_some, TT_bv]
  obtain ⟨m1, -, hd, -, -, -, e5, -, e7, -⟩ := hf h hh
  rw [grd_y ((nvp (by omega)).mpr (by omega)), TT_bv, TT_bind, nclampI (by omega), e5]
  refine TT_for 12 (fun k s => ∃ a f : _, s = (oI a, nI k) ∧ (∀ m, a = some m → m < f ∧ m < n ∧ f + k ≤ 13 ∧ m + k < 12) ∧ cbk mo di (di h) f a k = cbk mo di (di h) 12 (mo h) 1) ?_ (show 1 ≤ 12 by omega) ⟨mo h, 12, rfl, fun m hm => by have := m1 m hm; omega, rfl⟩
  rintro k _ hk ⟨a, f, rfl, ha, hc⟩
  rw [show (12 : Int32) = nI 12 from rfl, TT_if, nleI (by omega) (by omega)]
  refine ⟨fun q => ?_, fun q => ?_⟩
  · cases a with
    | none =>
      rw [cbk_none] at hc
      rw [TT_some]
      show TT (some _) _
      rw [TT_some, hc]
    | some m => have := ha m rfl; omega
  · simp only [c_hasHouse hC0 hn h8, Option.bind_some]
    cases a with
    | none =>
      rw [cbk_none] at hc
      rw [if_neg (show ¬ (0 ≤ oI none ∧ oI none < nI n) from fun w => absurd w.1 (by decide)), if_pos rfl, TT_some]
      show TT (some _) _
      rw [TT_some, hc]
    | some m =>
      obtain ⟨c1, c2, c3, c4⟩ := ha m rfl
      rw [oI_some]
      rw [if_pos (show 0 ≤ nI m ∧ nI m < nI n from ⟨by rw [show (0 : Int32) = nI 0 from rfl, nleI (by omega) (by omega)]; omega, by rw [nltI (by omega) (by omega)]; omega⟩), if_neg (by decide)]
      obtain ⟨m2, -, hd2, -, -, -, f5, -, f7, -⟩ := hf m c2
      rw [grd_y ((nvp (by omega)).mpr (by omega)), grd_y ((nvp (by omega)).mpr (by omega)), grd_y ((nvp (by omega)).mpr (by omega)), nclampI (a := m) (by omega), f7, e7, f5, TT_if, rank_inj hd2 hd]
      obtain ⟨g, rfl⟩ : ∃ g, f = g + 1 := ⟨f - 1, by omega⟩
      rw [cbk] at hc
      refine ⟨fun w => ?_, fun w => ?_⟩
      · rw [if_pos w] at hc
        rw [TT_some]
        show TT (some _) _
        rw [TT_some, hc]
      · rw [if_neg w] at hc
        simp only [bv]
        rw [TT_some]
        exact ⟨by omega, mo m, g, by rw [nsucc], fun m3 hm3 => by have := m2 m3 hm3; omega, hc⟩
theorem r_cbk (hM : LayM M) (hv : HSV M n mo yr di) {h : Nat} (hh : h < n) : f_X12_changedBack M 47 (nI h) = some (cbk mo di (di h) 12 (mo h) 1) := by
  have hM0 := hM
  have hv0 := hv
  obtain ⟨hn, h56, h8, hf⟩ := hv
  apply TT.is
  unfold f_X12_changedBack
  unfold LayM at hM
  simp only [hM, grd_T, Option.bind_some, r_mo hM0 hv0 hh, r_di hM0 hv0 hh]
  obtain ⟨m1, -, hd, -⟩ := hf h hh
  rw [TT_bind]
  refine TT_for 13 (fun k s => ∃ a f : _, s = (nI k, oI a) ∧ (∀ m, a = some m → m < f ∧ m < n ∧ f + k ≤ 13 ∧ m + k < 12) ∧ cbk mo di (di h) f a k = cbk mo di (di h) 12 (mo h) 1) ?_ (show 1 ≤ 13 by omega) ⟨mo h, 12, rfl, fun m hm => by have := m1 m hm; omega, rfl⟩
  rintro k _ hk ⟨a, f, rfl, ha, hc⟩
  cases a with
  | none =>
    rw [cbk_none] at hc
    rw [TT_if]
    refine ⟨fun _ => ?_, fun q => absurd (show (-1 : Int32) = -1 from rfl) q⟩
    rw [TT_some]
    show TT (some _) _
    rw [TT_some, hc]
  | some m =>
    obtain ⟨c1, c2, c3, c4⟩ := ha m rfl
    obtain ⟨m2, -, hd2, -⟩ := hf m c2
    rw [TT_if]
    refine ⟨fun q => absurd q (nne_m1 (by omega)), fun _ => ?_⟩
    simp only [oI_some]
    rw [r_di hM0 hv0 c2, r_mo hM0 hv0 c2]
    simp only [Option.bind_some, bv]
    obtain ⟨g, rfl⟩ : ∃ g, f = g + 1 := ⟨f - 1, by omega⟩
    rw [cbk] at hc
    rw [TT_if, num_inj hd2 hd]
    refine ⟨fun w => ?_, fun w => ?_⟩
    · rw [if_pos w] at hc
      rw [TT_some]
      show TT (some _) _
      rw [TT_some, hc]
    · rw [if_neg w] at hc
      rw [TT_some]
      exact ⟨by omega, mo m, g, by rw [nsucc], fun m3 hm3 => by have := m2 m3 hm3; omega, hc⟩
end
