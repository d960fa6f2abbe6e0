/-! what a dish tastes of; undo -/
theorem sl_8 {d : Nat} (h : d < 6) : sl 1 (nI (3 * d)) = nI (8 ^ d) := by
  have : d = 0 ∨ d = 1 ∨ d = 2 ∨ d = 3 ∨ d = 4 ∨ d = 5 := by omega
  rcases this with h | h | h | h | h | h <;> subst h <;> decide
theorem tst_cons (d : Nat) (t : List Nat) : tst (d :: t) = 8 ^ d + tst t := by
  unfold tst
  simp
theorem tst_app (s t : List Nat) : tst (s ++ t) = tst s + tst t := by
  unfold tst
  simp
theorem tst_rev : ∀ l : List Nat, tst l.reverse = tst l
  | [] => rfl
  | d :: t => by
    rw [List.reverse_cons, tst_app, tst_rev t, tst_cons, tst_cons]
    show tst t + (8 ^ d + 0) = _
    omega
theorem p_tasteR {r : List Nat} (h : DD r) : f_X6_tasteOf (nI (rk r)) = some (nI (tst r)) := by
  apply TT.is
  unfold f_X6_tasteOf
  have hr := h.rk
  have h5 := h.1
  have hv := h.vr
  have hs : stN r.length ≤ stN 6 := stN_mono (by omega) (by omega)
  have h66 : stN 6 = 9331 := rfl
  have e0 : rk r = stN r.length + vr r := rfl
  rw [p_lengthOf h]
  simp only [TT_bind, TT_some, TT_grd, TT_bv]
  rw [stV_n (by omega), nsub (by omega), nvp (by omega)]
  refine ⟨by omega, ?_⟩
  have e1 : rk r - stN r.length = vr r := by omega
  rw [e1]
  refine TT_loop (fun s => ∃ (t : List Nat) (n i : Nat), s = (nI (vr t), nI n, nI i) ∧ DD t ∧ i + t.length = r.length ∧ n + tst t = tst r) (fun s => r.length - s.2.2.toNatClampNeg) ?_ _ ⟨r, 0, 0, rfl, h, by omega, by omega⟩
  rintro _ ⟨t, n, i, rfl, ht, hi, hn⟩
  have htv := ht.vr
  cases t with
  | nil =>
    simp only [List.length_nil] at hi
    simp (disch := omega) only [nleI]
    rw [if_pos (by omega), TT_some]
    show nI n = nI (tst r)
    congr 1
  | cons d t =>
    obtain ⟨ht2, hd⟩ := ht.tl
    obtain ⟨e2, e3⟩ := vr_div (t := t) hd
    simp only [List.length_cons] at hi
    simp (disch := omega) only [show (6 : Int32) = nI 6 from rfl, show (3 : Int32) = nI 3 from rfl, nleI, nmul, ndiv, nrem, bv, e2, e3]
    rw [if_neg (by omega), TT_some, sl_8 hd, nadd, show nI i + 1 = nI (i + 1) from nadd i 1]
    refine ⟨⟨t, n + 8 ^ d, i + 1, rfl, ht2, by omega, ?_⟩, ?_⟩
    · rw [← hn, tst_cons]
      omega
    · simp only
      rw [nclampI (by omega), nclampI (by omega)]
      omega
theorem p_tasteOf {l : List Nat} (hl : DL l) : f_X6_tasteOf (nI (rank l)) = some (nI (tst l)) := by
  rw [← tst_rev l]
  exact p_tasteR hl.rev
theorem p_numOf {l : List Nat} (hl : DL l) : f_X6_numberOf (nI (rank l)) = some (nI (num l)) := p_numberOf hl.rev
theorem p_rank_y {l : List Nat} (hl : DL l) : f_X6_rankOf (nI (num l)) = some (nI (rank l)) := p_rankOf_y hl.rev
theorem p_dish_y {l : List Nat} (hl : DL l) : f_X12_isDish (nI (num l)) = some 1 := p_isDish_y hl.rev
theorem dn_or (p : Int32) : (∃ l, DL l ∧ p = nI (num l)) ∨ ¬ isDn p := by
  by_cases h : isDn p
  · obtain ⟨r, hr, e⟩ := h
    refine Or.inl ⟨r.reverse, ⟨by rw [List.length_reverse]; exact hr.1, fun d hd => hr.2 d (List.mem_reverse.mp hd)⟩, ?_⟩
    unfold num
    rw [List.reverse_reverse]
    exact e
  · exact Or.inr h
theorem mmax0 {n : Nat} (hn : n < 2147483648) : mmax 0 (nI n) = nI n := by
  unfold mmax
  rw [show (0 : Int32) = nI 0 from rfl]
  split
  · rfl
  · rename_i h
    simp (disch := omega) only [nltI] at h
    congr 1
    omega
theorem keep_n {n m : Nat} (hn : n ≤ 12) (hm : m ≤ n) : mmax 0 (mmin (nI n) (nI m)) = nI m := by
  have : mmin (nI n) (nI m) = nI m := by
    unfold mmin
    split
    · rfl
    · rename_i h
      simp (disch := omega) only [nltI] at h
      congr 1
      omega
  rw [this, mmax0 (by omega)]
def UNC (M : Mem) (m : Nat) : Mem := wI (wI (wI M 1 8 (nI m)) 1 14 (mI M 1 14 + 1)) 0 12 0
theorem c_keep {M : Mem} (hL : LayC M) {n m : Nat} (hn : n ≤ 12) (hm : m ≤ n) (h8 : mI M 1 8 = nI n) : f_X10_keepHouses M 1 (nI m) = some (wI (wI M 1 8 (nI m)) 1 14 (mI M 1 14 + 1)) := by
  unfold LayC at hL
  unfold f_X10_keepHouses
  simp only [hL, grd_T, bv, h8]
  rw [keep_n hn hm, mI_wI_ne (by decide)]
theorem STP.undo {M : Mem} (h : REL M) {n m : Nat} (hn : n ≤ 12) (h56 : mI M 49 56 = nI n) (hm : m ≤ n) : STP M (STR (UNC M m) 56 (nI m)) := by
  obtain ⟨hC, hM, ⟨hK1, hK2, hK3, hK4⟩, hV, hO⟩ := h
  have hF : Fr Ssm M (STR (UNC M m) 56 (nI m)) := by
    have h1 : Fr Ssm M (UNC M m) := ((Fr.rf.wI (show Ssm 1 8 by unfold Ssm; omega)).wI (show Ssm 1 14 by unfold Ssm; omega)).wI (show Ssm 0 12 by unfold Ssm; omega)
    exact ((h1.wI (show Ssm 49 56 by unfold Ssm; omega)).wI (show Ssm 47 0 by unfold Ssm; omega)).wI (show Ssm 47 1 by unfold Ssm; omega)
  have e49 : ∀ k, mI (STR (UNC M m) 56 (nI m)) 49 k = if k = 56 then nI m else mI M 49 k := fun k => by
    unfold STR UNC
    rw [mI_wI_row (a := 47) (by decide), mI_wI_row (a := 47) (by decide), mI_wI, mI_wI_row (a := 0) (by decide), mI_wI_row (a := 1) (by decide), mI_wI_row (a := 1) (by decide)]
    by_cases e : k = 56
    · rw [if_pos e, if_pos ⟨rfl, e⟩]
    · rw [if_neg e, if_neg (fun q => e q.2)]
  have e1 : ∀ i, i ≤ 13 → mI (STR (UNC M m) 56 (nI m)) 1 i = if i = 8 then nI m else mI M 1 i := fun i hi => by
    unfold STR UNC
    rw [mI_wI_row (a := 47) (by decide), mI_wI_row (a := 47) (by decide), mI_wI_row (a := 49) (by decide), mI_wI_row (a := 0) (by decide), mI_wI_ne (by omega), mI_wI]
    by_cases e : i = 8
    · rw [if_pos e, if_pos ⟨rfl, e⟩]
    · rw [if_neg e, if_neg (fun q => e q.2)]
  have e14 : mI (STR (UNC M m) 56 (nI m)) 1 14 = mI M 1 14 + 1 := by
    unfold STR UNC
    rw [mI_wI_row (a := 47) (by decide), mI_wI_row (a := 47) (by decide), mI_wI_row (a := 49) (by decide), mI_wI_row (a := 0) (by decide), mI_wIs]
  have e28 : ∀ a k, (2 ≤ a ∧ a ≤ 8) ∨ a = 45 ∨ a = 48 → mI (STR (UNC M m) 56 (nI m)) a k = mI M a k := fun a k ha => by
    unfold STR UNC
    rw [mI_wI_row (a := 47) (by omega), mI_wI_row (a := 47) (by omega), mI_wI_row (a := 49) (by omega), mI_wI_row (a := 0) (by omega), mI_wI_row (a := 1) (by omega), mI_wI_row (a := 1) (by omega)]
  have o1 : mI (STR (UNC M m) 56 (nI m)) 0 12 = 0 := by
    unfold STR UNC
    rw [mI_wI_row (a := 47) (by decide), mI_wI_row (a := 47) (by decide), mI_wI_row (a := 49) (by decide), mI_wIs]
  have o2 : mI (STR (UNC M m) 56 (nI m)) 47 0 = 0 := by
    unfold STR
    rw [mI_wI_ne (by decide), mI_wIs]
  have vv : mI (STR (UNC M m) 56 (nI m)) 47 1 = mI M 47 1 + 1 := by
    unfold STR UNC
    rw [mI_wIs, mI_wI_row (a := 0) (by decide), mI_wI_row (a := 1) (by decide), mI_wI_row (a := 1) (by decide)]
  generalize STR (UNC M m) 56 (nI m) = M2 at *
  refine ⟨⟨hC.fr hF, hM.fr hF, ⟨fun t ht => ?_, ?_, ?_, ?_⟩, ⟨fun u hu => ?_, ?_, fun n' g h1 h2 h3 => ?_⟩, by rw [o1, o2], fun n hn => by rw [e28 45 _ (by omega), e28 48 _ (by omega)]; exact hO.2 n hn⟩, hF, Or.inr (Or.inr ⟨by rw [e1 13 (by omega), if_neg (by omega)], e14, fun k hk => by rw [e49, if_neg (by omega)]⟩), Or.inr vv⟩
  · rw [e49, e49, e49, if_neg (by omega), if_neg (by omega), if_neg (by omega)]
    exact hK1 t ht
  · unfold KTM
    rw [e49, e49, if_neg (by omega), if_neg (by omega)]
    exact hK2
  · unfold KLW
    rw [e49, e49, if_neg (by omega), if_neg (by omega)]
    exact hK3
  · obtain ⟨n', a, b, c⟩ := hK4
    rw [h56] at b
    have := nI_inj (by omega) (by omega) b
    refine ⟨m, by omega, by rw [e49, if_pos rfl], fun g hg => ?_⟩
    rw [e49, e49, e49, if_neg (by omega), if_neg (by omega), if_neg (by omega)]
    exact c g (by omega)
  · rw [e28 2 u (by omega), e28 3 u (by omega), e28 4 u (by omega), e49, e49, e49, if_neg (by omega), if_neg (by omega), if_neg (by omega)]
    exact hV.1 u hu
  · obtain ⟨a1, a2, a3, a4, a5⟩ := hV.2.1
    unfold CVo
    rw [e1 8 (by omega), e1 9 (by omega), e1 10 (by omega), e1 11 (by omega), e1 12 (by omega), e49, e49, e49, e49, e49]
    exact ⟨rfl, a2, a3, a4, a5⟩
  · rw [e49, if_pos rfl] at h2
    have hmn : m = n' := nI_inj (by omega) (by omega) h2
    rw [e28 5 g (by omega), e28 6 g (by omega), e28 7 g (by omega), e28 8 g (by omega), e49, e49, e49, if_neg (by omega), if_neg (by omega), if_neg (by omega)]
    exact hV.2.2 n g hn h56 (by omega)
