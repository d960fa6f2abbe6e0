/-! copies on both sides -/
theorem take_succ {l : List Nat} {k : Nat} (hk : k < l.length) : l.take (k + 1) = l.take k ++ [l.getD k 0] := by
  rw [List.take_add_one, List.getD_eq_getElem?_getD]
  simp [hk]
theorem lft_snoc {x d : Nat} {l : List Nat} : lft x (l ++ [d]) = if d = x then lft x l else lft x l ++ [d] := by
  unfold lft
  rw [List.filter_append]
  by_cases h : d = x <;> simp [h]
theorem r_without {M : Mem} (hM : LayM M) {l : List Nat} (hl : DL l) {x : Nat} (hx : x < 6) : TT (f_X12_without M 47 (nI (num l)) (nI x)) (fun q => Fr Spin M q.1 ∧ q.2 = nI (num (lft x l))) := by
  have h5 := hl.1
  have hM0 := hM
  unfold f_X12_without
  unfold LayM at hM
  simp only [hM, grd_T]
  rw [TT_bind]
  refine (p_opens hM0 hl).mono ?_
  rintro M1 ⟨hF, h7, hp⟩
  rw [TT_bind]
  refine TT_for l.length (fun k s => s.2 = (nI (lft x (l.take k)).length, nI k) ∧ Fr Spin M s.1 ∧ mI s.1 47 7 = nI l.length ∧ (∀ j, j < (lft x (l.take k)).length → mI s.1 52 j = nI ((lft x (l.take k)).getD j 0)) ∧ ∀ j, k ≤ j → j < l.length → mI s.1 52 j = nI (l.getD j 0)) ?_ (Nat.zero_le _) ⟨rfl, hF, h7, fun j hj => absurd hj (by simp [lft]), fun j _ hj => hp j hj⟩
  rintro k ⟨M2, x1, x2⟩ hk ⟨e, hF2, e7, hA, hB⟩
  simp only [Prod.mk.injEq] at e
  obtain ⟨rfl, rfl⟩ := e
  simp only at hF2 e7 hA hB ⊢
  have hM2 := hM0.fr hF2
  have hM3 := hM2
  unfold LayM at hM3
  have hlen : (lft x (l.take k)).length ≤ k := Nat.le_trans (List.length_filter_le _ _) (by rw [List.length_take]; omega)
  rw [e7, TT_if, nleI (by omega) (by omega)]
  refine ⟨fun q => ?_, fun q => ?_⟩
  · obtain rfl : k = l.length := by omega
    rw [List.take_length] at hA ⊢
    rw [TT_some]
    show TT (bv _ _) _
    rw [TT_bv, TT_bind]
    have hL4 : LayM (wI M2 47 7 (nI (lft x l).length)) := hM2.w
    rw [p_closes hL4 (lft_DL hl) mI_wIs (fun j hj => by rw [mI_wI_row (by decide)]; exact hA j hj), TT_some, TT_some]
    exact ⟨hF2.wI (Or.inr ⟨rfl, rfl⟩), rfl⟩
  · simp only [hM3, grd_T, Option.bind_some]
    rw [grd_y ((nvp (by omega)).mpr (by omega)), nclampI (a := k) (by omega), hB k (by omega) (by omega)]
    have hg : l.getD k 0 < 6 := getD_lt hl
    simp only [bv]
    rw [TT_if, neqI (by omega) (by omega), take_succ (show k < l.length by omega), lft_snoc]
    refine ⟨fun w => ?_, fun w => ?_⟩
    · rw [TT_some, if_pos w]
      exact ⟨by omega, by rw [nsucc], hF2, e7, hA, fun j h1 h2 => hB j (by omega) h2⟩
    · rw [grd_y ((nvp (by omega)).mpr (by omega)), grd_y ((nvp (by omega)).mpr (by omega)), nclampI (by omega), TT_some, if_neg w]
      refine ⟨by omega, ?_, hF2.wI (Or.inl rfl), ?_, fun j hj => ?_, fun j h1 h2 => ?_⟩
      · rw [List.length_append, List.length_singleton, nsucc, nsucc]
      · rw [mI_wI_row (by decide)]
        exact e7
      · rw [List.length_append, List.length_singleton] at hj
        rw [mI_wI]
        by_cases hj2 : j = (lft x (l.take k)).length
        · subst hj2
          rw [if_pos ⟨rfl, rfl⟩]
          simp
        · rw [if_neg (fun w => hj2 w.2), hA j (by omega)]
          congr 1
          simp only [List.getD_eq_getElem?_getD]
          rw [List.getElem?_append_left (by omega)]
      · rw [mI_wI_ne (by omega)]
        exact hB j (by omega) h2
section
variable {M : Mem} {n : Nat} {mo : Nat → Option Nat} {yr : Nat → Nat} {di : Nat → List Nat}
def cpT (di : Nat → List Nat) (l : List Nat) (h : Nat) : Nat → Int32 → Int32
  | 0, b => b
  | t + 1, b => if 0 < (di h).count t ∧ lft t (di h) = l then cpT di l h t b ||| sl 1 (nI h) else cpT di l h t b
def cpH (di : Nat → List Nat) (l : List Nat) : Nat → Int32
  | 0 => 0
  | h + 1 => cpT di l h 6 (cpH di l h)
theorem c_copies (hC : LayC M) (hv : HSV M n mo yr di) {l : List Nat} (hl : DL l) : f_X11_copies M 0 (nI (num l)) = some (cpH di l n) := by
  have hC0 := hC
  have hv0 := hv
  obtain ⟨hn, h56, h8, hf⟩ := hv
  have hr := hl.rank
  apply TT.is
  unfold f_X11_copies
  unfold LayC at hC
  rw [p_rank_y hl, Option.bind_some, if_neg (nne_m1 (by omega)), TT_bind]
  simp only [hC, grd_T, Option.bind_some, TT_some]
  refine TT_for n (fun k s => s = (cpH di l k, nI k)) ?_ (Nat.zero_le n) rfl
  rintro k _ hk rfl
  simp only [h8]
  rw [TT_if, nleI (by omega) (by omega)]
  refine ⟨fun q => ?_, fun q => ?_⟩
  · obtain rfl : k = n := by omega
    rw [TT_some]
    rfl
  obtain ⟨-, h999, hd, -, -, -, e5, e6, e7, -⟩ := hf k (by omega)
  have hdr := hd.rank
  rw [TT_bind]
  refine TT_for 6 (fun t s => s = (cpT di l k t (cpH di l k), nI t)) ?_ (Nat.zero_le 6) rfl
  rintro t _ ht rfl
  rw [show (6 : Int32) = nI 6 from rfl, TT_if, nleI (by omega) (by omega)]
  refine ⟨fun w => ?_, fun w => ?_⟩
  · obtain rfl : t = 6 := by omega
    rw [TT_some]
    show TT (bv _ _) _
    rw [TT_bv, TT_some]
    exact ⟨by omega, by rw [nsucc]; rfl⟩
  · have hc : (di k).count t ≤ 5 := Nat.le_trans List.count_le_length hd.1
    have hld := lft_DL (x := t) hd
    have hlr := hld.rank
    simp only
    rw [c_holds hC0 hv0 (by omega) (by omega), Option.bind_some]
    simp only [bv]
    rw [grd_y ((nvp (by omega)).mpr (by omega)), nclampI (by omega), e7, p_leftOut hd (by omega), Option.bind_some, show (0 : Int32) = nI 0 from rfl, TT_if, TT_if, nleI (by omega) (by omega), rank_inj hld hl, TT_some, TT_some]
    refine ⟨fun w1 => ⟨by omega, ?_⟩, fun w1 => ⟨fun w2 => ?_, fun w2 => ?_⟩⟩
    · rw [cpT, if_neg (by omega), nsucc]
    · exact ⟨by omega, by rw [cpT, if_pos ⟨by omega, w2⟩, nsucc]⟩
    · exact ⟨by omega, by rw [cpT, if_neg (fun w3 => w2 w3.2), nsucc]⟩
theorem HSV.fr {M1 : Mem} {S : Nat → Nat → Prop} (hv : HSV M n mo yr di) (hF : Fr S M M1) (hs : ∀ a k, S a k → a ≠ 49 ∧ a ≠ 1 ∧ a ≠ 5 ∧ a ≠ 6 ∧ a ≠ 7 ∧ a ≠ 8) : HSV M1 n mo yr di := by
  have e : ∀ a k, (a = 49 ∨ a = 1 ∨ a = 5 ∨ a = 6 ∨ a = 7 ∨ a = 8) → mI M1 a k = mI M a k := fun a k h => hF.i (fun q => by have := hs a k q; omega)
  obtain ⟨hn, h56, h8, hf⟩ := hv
  refine ⟨hn, by rw [e 49 _ (by omega), h56], by rw [e 1 _ (by omega), h8], fun h hh => ?_⟩
  rw [e 49 _ (by omega), e 49 _ (by omega), e 49 _ (by omega), e 5 _ (by omega), e 6 _ (by omega), e 7 _ (by omega), e 8 _ (by omega)]
  exact hf h hh
theorem spin_h : ∀ a k, Spin a k → a ≠ 49 ∧ a ≠ 1 ∧ a ≠ 5 ∧ a ≠ 6 ∧ a ≠ 7 ∧ a ≠ 8 := fun a k h => by
  unfold Spin at h
  omega
theorem r_copies (hM : LayM M) (hv : HSV M n mo yr di) {l : List Nat} (hl : DL l) : TT (f_X12_copies M 47 (nI (num l))) (fun q => Fr Spin M q.1 ∧ q.2 = cpH di l n) := by
  have hM0 := hM
  have hv0 := hv
  obtain ⟨hn, h56, h8, hf⟩ := hv
  unfold f_X12_copies
  rw [p_dish_y hl, Option.bind_some, if_neg (by decide), TT_bind]
  refine TT_for n (fun k s => s.2 = (cpH di l k, nI k) ∧ Fr Spin M s.1) ?_ (Nat.zero_le n) ⟨rfl, Fr.rf⟩
  rintro k ⟨M1, x1, x2⟩ hk ⟨e, hF⟩
  simp only [Prod.mk.injEq] at e
  obtain ⟨rfl, rfl⟩ := e
  simp only at hF ⊢
  have hM1 := hM0.fr hF
  have hv1 := hv0.fr hF spin_h
  unfold LayM at hM1
  simp only [hM1, grd_T, Option.bind_some]
  rw [show (56 : Int32) = nI 56 from rfl, grd_y ((nvp (by omega)).mpr (by omega)), nclampI (by omega), hv1.2.1, TT_if, nleI (by omega) (by omega)]
  refine ⟨fun q => ?_, fun q => ?_⟩
  · obtain rfl : k = n := by omega
    rw [TT_some]
    show TT (some _) _
    rw [TT_some]
    exact ⟨hF, rfl⟩
  obtain ⟨-, h999, hd, -⟩ := hf k (by omega)
  rw [TT_bind]
  refine TT_for 6 (fun t s => s.2 = (cpT di l k t (cpH di l k), nI t) ∧ Fr Spin M s.1) ?_ (Nat.zero_le 6) ⟨rfl, hF⟩
  rintro t ⟨M2, x1, x2⟩ ht ⟨e, hF2⟩
  simp only [Prod.mk.injEq] at e
  obtain ⟨rfl, rfl⟩ := e
  simp only at hF2 ⊢
  have hM2 := hM0.fr hF2
  have hv2 := hv0.fr hF2 spin_h
  rw [show (6 : Int32) = nI 6 from rfl, TT_if, nleI (by omega) (by omega)]
  refine ⟨fun w => ?_, fun w => ?_⟩
  · obtain rfl : t = 6 := by omega
    rw [TT_some]
    show TT (bv _ _) _
    rw [TT_bv, TT_some]
    exact ⟨by omega, by rw [nsucc]; rfl, hF2⟩
  · have hc : (di k).count t ≤ 5 := Nat.le_trans List.count_le_length hd.1
    have hld := lft_DL (x := t) hd
    rw [r_di hM2 hv2 (by omega), Option.bind_some, p_has' hd (by omega), Option.bind_some]
    simp only [bv, Option.bind_some]
    rw [show (0 : Int32) = nI 0 from rfl, TT_if, nleI (by omega) (by omega)]
    refine ⟨fun w1 => ?_, fun w1 => ?_⟩
    · rw [TT_some]
      exact ⟨by omega, by rw [cpT, if_neg (by omega), nsucc], hF2⟩
    · rw [TT_bind]
      refine (r_without hM2 hd (by omega)).mono ?_
      rintro ⟨M3, y⟩ ⟨hF3, hy⟩
      simp only at hF3 hy ⊢
      subst hy
      rw [TT_if, num_inj hld hl, TT_some, TT_some]
      refine ⟨fun w2 => ⟨by omega, ?_, hF2.tr hF3⟩, fun w2 => ⟨by omega, ?_, hF2.tr hF3⟩⟩
      · rw [cpT, if_pos ⟨by omega, w2⟩, nsucc]
      · rw [cpT, if_neg (fun w3 => w2 w3.2), nsucc]
end
/-- the reference alone may change cells of its own between two calls -/
theorem both_copies {M : Mem} (h : REL M) (p : Int32) : ∃ x, f_X11_copies M 0 p = some x ∧ TT (f_X12_copies M 47 p) (fun q => Fr Spin M q.1 ∧ q.2 = x) := by
  obtain ⟨n, mo, yr, di, hv⟩ := h.hsv
  rcases dn_or p with ⟨l, hl, rfl⟩ | hp
  · exact ⟨_, c_copies h.1 hv hl, r_copies h.2.1 hv hl⟩
  · refine ⟨-1, ?_, ?_⟩
    · unfold f_X11_copies
      rw [p_rankOf_n hp, Option.bind_some, if_pos rfl]
    · unfold f_X12_copies
      rw [p_isDish_n hp, Option.bind_some, if_pos rfl, TT_some]
      exact ⟨Fr.rf, rfl⟩
