section
variable {M : Mem} {n : Nat} {mo : Nat → Option Nat} {yr : Nat → Nat} {di : Nat → List Nat}
theorem c_like (hC : LayC M) (hv : HSV M n mo yr di) {b a set : Nat} (hb : b < 4096) (ha : a < n) (hs : set < 64) : f_X10_isLikeEarlier M 1 (nI b) (nI a) (nI (mkS set 6)) = some (b1 (!fst1 di b set a a)) := by
  obtain ⟨hn, h56, h8, hf⟩ := hv
  apply TT.is
  unfold f_X10_isLikeEarlier
  unfold LayC at hC
  rw [TT_bind]
  simp only [hC, grd_T, Option.bind_some]
  obtain ⟨-, -, hda, -, -, -, -, -, -, ea⟩ := hf a ha
  refine TT_for a (fun k s => s = nI k ∧ fst1 di b set a k = true) ?_ (Nat.zero_le a) ⟨rfl, rfl⟩
  rintro k _ hk ⟨rfl, hfk⟩
  rw [TT_if, nleI (by omega) (by omega)]
  refine ⟨fun q => ?_, fun q => ?_⟩
  · obtain rfl : k = a := by omega
    rw [TT_some]
    show TT (some _) _
    rw [TT_some, hfk]
    rfl
  · obtain ⟨-, -, hdk, -, -, -, -, -, -, ek⟩ := hf k (by omega)
    have st : fst1 di b set a (k + 1) = (fst1 di b set a k && !(b.testBit k && alk di set a k)) := by
      unfold fst1
      rw [any_succ, Bool.not_or]
    simp only [bv, nsucc]
    rw [grd_y ((nvp (by omega)).mpr (by omega)), grd_y ((nvp (by omega)).mpr (by omega)), nclampI (by omega), nclampI (by omega), ek, ea, xor_n, and_n, TT_if, bit_n (by omega) (by omega)]
    refine ⟨fun w => ?_, fun w => ?_⟩
    · have hm := mkS_hi set hs
      have hle : (tst (di k) ^^^ tst (di a)) &&& mkS set 6 < 2147483648 := Nat.lt_of_le_of_lt Nat.and_le_right (by omega)
      have e1 : (((tst (di k) ^^^ tst (di a)) &&& mkS set 6) = 0) ↔ alk di set a k = true := by
        rw [like_iff hdk hda hs, alk_iff]
        exact ⟨fun h t ht hb => (h t ht hb).symm, fun h t ht hb => (h t ht hb).symm⟩
      rw [show (0 : Int32) = nI 0 from rfl, TT_if, neqI hle (by omega), e1]
      refine ⟨fun w2 => ?_, fun w2 => ?_⟩
      · rw [TT_some]
        show TT (some _) _
        rw [TT_some]
        have : fst1 di b set a a = false := by
          unfold fst1
          rw [Bool.not_eq_false', List.any_eq_true]
          exact ⟨k, List.mem_range.mpr (by omega), by rw [w, w2]; rfl⟩
        rw [this]
        rfl
      · rw [TT_some]
        exact ⟨by omega, rfl, by rw [st, hfk, Bool.not_eq_true _ |>.mp w2]; simp⟩
    · rw [TT_some]
      exact ⟨by omega, rfl, by rw [st, hfk, Bool.not_eq_true _ |>.mp w]; simp⟩
theorem c_groups (hC : LayC M) (hv : HSV M n mo yr di) {b set : Nat} (hb : b < 4096) (hs : set < 64) : f_X10_groupsBy M 1 (nI b) (nI set) = some (nI (grp di b set n)) := by
  have hC0 := hC
  have hv0 := hv
  obtain ⟨hn, h56, h8, hf⟩ := hv
  apply TT.is
  unfold f_X10_groupsBy
  unfold LayC at hC
  rw [TT_bind]
  simp only [hC, grd_T, Option.bind_some]
  refine TT.mono (Q := fun x => x = nI (mkS set 6)) ?_ ?_
  · refine TT_for 6 (fun t s => s = (nI (mkS set t), nI t)) ?_ (Nat.zero_le 6) rfl
    rintro t _ ht rfl
    rw [show (6 : Int32) = nI 6 from rfl, TT_if, nleI (by omega) (by omega)]
    refine ⟨fun w => ?_, fun w => ?_⟩
    · obtain rfl : t = 6 := by omega
      rw [TT_some]
      rfl
    · simp only [bv, nsucc]
      rw [and1 _ _ (by omega) (by omega), show (7 : Int32) = nI 7 from rfl, show (3 : Int32) = nI 3 from rfl, nmul, nmul, sl_n (by omega), or_n, TT_some]
      exact ⟨by omega, rfl⟩
  · rintro _ rfl
    rw [TT_bind]
    simp only [TT_some]
    refine TT_for n (fun k s => s = (nI (grp di b set k), nI k)) ?_ (Nat.zero_le n) rfl
    rintro k _ hk rfl
    simp only [h8]
    rw [TT_if, nleI (by omega) (by omega)]
    refine ⟨fun q => ?_, fun q => ?_⟩
    · obtain rfl : k = n := by omega
      rw [TT_some]
      rfl
    · simp only [bv, nsucc]
      rw [c_like hC0 hv0 hb (by omega) hs, Option.bind_some, grp_succ, TT_if, bit_n (by omega) (by omega)]
      refine ⟨fun w => ?_, fun w => ?_⟩
      · rw [w]
        cases fst1 di b set k k with
        | true =>
          rw [if_pos (show b1 (!true) = 0 from rfl), TT_some]
          exact ⟨by omega, rfl⟩
        | false =>
          rw [if_neg (by decide), TT_some]
          exact ⟨by omega, by rw [show (0 : Int32) = nI 0 from rfl, nadd]; rfl⟩
      · rw [Bool.not_eq_true _ |>.mp w, TT_some]
        exact ⟨by omega, by rw [show (0 : Int32) = nI 0 from rfl, nadd]; rfl⟩
theorem r_isOne {b i : Nat} (hb : b < 4096) (hi : i < 32) : f_X12_isOne (nI b) (nI i) = some (b1 (b.testBit i)) := by
  unfold f_X12_isOne
  by_cases h : b.testBit i = true
  · rw [if_pos ((bit_n (by omega) hi).mpr h), h]
    rfl
  · rw [if_neg (fun w => h ((bit_n (by omega) hi).mp w)), Bool.not_eq_true _ |>.mp h]
    rfl
theorem r_alike (hM : LayM M) (hv : HSV M n mo yr di) {a c set : Nat} (ha : a < n) (hc : c < n) (hs : set < 64) : f_X12_areAlike M 47 (nI a) (nI c) (nI set) = some (b1 (alk di set a c)) := by
  have hM0 := hM
  have hv0 := hv
  obtain ⟨hn, h56, h8, hf⟩ := hv
  apply TT.is
  unfold f_X12_areAlike
  unfold LayM at hM
  rw [TT_bind]
  simp only [hM, grd_T, Option.bind_some]
  obtain ⟨-, -, hda, -⟩ := hf a ha
  obtain ⟨-, -, hdc, -⟩ := hf c hc
  have hca : ∀ t, (di a).count t ≤ 5 := fun t => Nat.le_trans List.count_le_length hda.1
  have hcc : ∀ t, (di c).count t ≤ 5 := fun t => Nat.le_trans List.count_le_length hdc.1
  refine TT_for 6 (fun k s => s = nI k ∧ ∀ t, t < k → set.testBit t = true → (di a).count t = (di c).count t) ?_ (Nat.zero_le 6) ⟨rfl, fun t ht => absurd ht (by omega)⟩
  rintro k _ hk ⟨rfl, hfk⟩
  rw [show (6 : Int32) = nI 6 from rfl, TT_if, nleI (by omega) (by omega)]
  refine ⟨fun q => ?_, fun q => ?_⟩
  · obtain rfl : k = 6 := by omega
    rw [TT_some]
    show TT (some _) _
    rw [TT_some, alk_iff.mpr hfk]
    rfl
  · simp only [bv, nsucc]
    rw [r_isOne (by omega) (by omega), Option.bind_some, r_di hM0 hv0 ha, Option.bind_some, p_has' hda (by omega), Option.bind_some, r_di hM0 hv0 hc, Option.bind_some, p_has' hdc (by omega), Option.bind_some]
    have c1 := hca k
    have c2 := hcc k
    cases hb : set.testBit k with
    | false =>
      rw [if_pos (show b1 false = 0 from rfl), TT_some]
      refine ⟨by omega, rfl, fun t ht hb2 => ?_⟩
      rcases Nat.lt_or_ge t k with w | w
      · exact hfk t w hb2
      · rw [show t = k by omega, hb] at hb2
        cases hb2
    | true =>
      rw [if_neg (by decide), TT_if, neqI (by omega) (by omega)]
      refine ⟨fun w => ?_, fun w => ?_⟩
      · rw [TT_some]
        refine ⟨by omega, rfl, fun t ht hb2 => ?_⟩
        rcases Nat.lt_or_ge t k with w2 | w2
        · exact hfk t w2 hb2
        · rw [show t = k by omega]
          exact w
      · rw [TT_some]
        show TT (some _) _
        rw [TT_some]
        have : alk di set a c = false := by
          rw [← Bool.not_eq_true]
          exact fun w2 => w (alk_iff.mp w2 k (by omega) hb)
        rw [this]
        rfl
theorem r_groups (hM : LayM M) (hv : HSV M n mo yr di) {b set : Nat} (hb : b < 4096) (hs : set < 64) : f_X12_groups M 47 (nI b) (nI set) = some (nI (grp di b set n)) := by
  have hM0 := hM
  have hv0 := hv
  obtain ⟨hn, h56, h8, hf⟩ := hv
  apply TT.is
  unfold f_X12_groups
  unfold LayM at hM
  rw [TT_bind]
  simp only [hM, grd_T, Option.bind_some, TT_some]
  refine TT_for n (fun k s => s = (nI (grp di b set k), nI k)) ?_ (Nat.zero_le n) rfl
  rintro k _ hk rfl
  rw [show (56 : Int32) = nI 56 from rfl, grd_y ((nvp (by omega)).mpr (by omega)), nclampI (by omega), h56, TT_if, nleI (by omega) (by omega)]
  refine ⟨fun q => ?_, fun q => ?_⟩
  · obtain rfl : k = n := by omega
    rw [TT_some]
    rfl
  · simp only
    rw [r_isOne hb (by omega), Option.bind_some, TT_bind]
    refine TT.mono (Q := fun x => x = b1 (b.testBit k && fst1 di b set k k)) ?_ ?_
    · refine TT_for k (fun c s => s = (b1 (b.testBit k && fst1 di b set k c), nI c)) ?_ (Nat.zero_le k) (by rw [show fst1 di b set k 0 = true from rfl, Bool.and_true]; rfl)
      rintro c _ hc rfl
      have st : fst1 di b set k (c + 1) = (fst1 di b set k c && !(b.testBit c && alk di set k c)) := by
        unfold fst1
        rw [any_succ, Bool.not_or]
      rw [TT_if, nleI (by omega) (by omega)]
      refine ⟨fun w => ?_, fun w => ?_⟩
      · obtain rfl : c = k := by omega
        rw [TT_some]
        rfl
      · simp only [bv, nsucc]
        rw [r_isOne hb (by omega), Option.bind_some, r_alike hM0 hv0 (by omega) (by omega) hs, Option.bind_some]
        cases hX : (b.testBit k && fst1 di b set k c) with
        | false =>
          rw [if_pos (show b1 false = 0 from rfl), TT_some]
          have e : ∀ j, c ≤ j → (b.testBit k && fst1 di b set k j) = false := by
            intro j hj
            rw [Bool.and_eq_false_iff] at hX ⊢
            rcases hX with hX | hX
            · exact Or.inl hX
            · refine Or.inr ?_
              unfold fst1 at hX ⊢
              rw [Bool.not_eq_false', List.any_eq_true] at hX ⊢
              obtain ⟨x, h1, h2⟩ := hX
              exact ⟨x, List.mem_range.mpr (by have := List.mem_range.mp h1; omega), h2⟩
          show b1 false = b1 _
          rw [e k (by omega)]
        | true =>
          rw [Bool.and_eq_true] at hX
          rw [if_neg (by decide), st, hX.1, hX.2]
          cases b.testBit c with
          | false =>
            rw [if_pos (show b1 false = 0 from rfl), TT_some]
            exact ⟨by omega, rfl⟩
          | true =>
            rw [if_neg (by decide)]
            cases alk di set k c with
            | false =>
              rw [if_pos (show b1 false = 0 from rfl), TT_some]
              exact ⟨by omega, rfl⟩
            | true =>
              rw [if_neg (by decide), TT_some]
              exact ⟨by omega, rfl⟩
    · rintro _ rfl
      simp only [bv, nsucc]
      rw [grp_succ]
      cases hX : (b.testBit k && fst1 di b set k k) with
      | false =>
        rw [if_pos (show b1 false = 0 from rfl), TT_some]
        exact ⟨by omega, by rw [show (0 : Int32) = nI 0 from rfl, nadd]; rfl⟩
      | true =>
        rw [if_neg (by decide), TT_some]
        exact ⟨by omega, rfl⟩
end
