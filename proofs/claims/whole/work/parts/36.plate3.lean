theorem p_replaced {M : Mem} (hL : LayC M) {l : List Nat} (hl : DL l) (hP : PLT M l) {p : Nat} {o : Option Nat} (hp : p < 1000) (ho : ∀ u, o = some u → u < 6) : f_X6_replaced M 27 (nI p) (oI o) = some (if p < l.length then oI (o.map (fun u => rank (l.set p u))) else -1) := by
  have h5 := hl.1
  have hv := hl.val
  apply TT.is
  unfold f_X6_replaced
  rw [p_hasPlace hL hl hP hp]
  unfold LayC at hL
  simp only [hL, grd_T, hP.1, hP.2.1, Option.bind_some]
  by_cases h : p < l.length
  · rw [if_pos h, if_neg (by decide), if_pos h]
    cases o with
    | none =>
      rw [if_pos (show oI none = -1 from rfl), TT_some]
      rfl
    | some u =>
      have hu := ho u rfl
      rw [show oI (some u) = nI u from rfl, if_neg (nne_m1 (a := u) (by omega))]
      obtain ⟨a, x, b, hab, ha, hb⟩ := cut_at h
      obtain ⟨u1, u2⟩ := pw_le (m := l.length - 1 - p) (by omega)
      have hs : stN l.length ≤ stN 6 := stN_mono (by omega) (by omega)
      have h66 : stN 6 = 9331 := rfl
      rw [show nI l.length - 1 = nI (l.length - 1) from nsub (b := 1) (by omega), nsub (by omega), pwV_n (by omega), stV_n (by omega), nclampI (by omega), hP.2.2.1 p h]
      rw [TT_grd, TT_grd, TT_grd, TT_some]
      refine ⟨(nvp (by omega)).mpr (by omega), (nvp (by omega)).mpr (by omega), (nvp (by omega)).mpr (by omega), ?_⟩
      show nI (stN l.length) + nI (val l) + (nI u - nI (l.getD p 0)) * nI (6 ^ (l.length - 1 - p)) = nI (rank (l.set p u))
      have e0 : l.getD p 0 = x := by rw [hab, ← ha, get_app]
      have e1 : l.set p u = a ++ u :: b := by rw [hab, ← ha, sett_app]
      have e2 : val l = val a * 6 ^ (b.length + 1) + (x * 6 ^ b.length + val b) := by rw [hab, val_app, val_cons, List.length_cons]
      have e3 : val (l.set p u) = val a * 6 ^ (b.length + 1) + (u * 6 ^ b.length + val b) := by rw [e1, val_app, val_cons, List.length_cons]
      rw [e0, ← hb, rank_val, List.length_set]
      simp only [nI_ii, ii_add, ii_sub, ii_mul]
      congr 1
      rw [Int.sub_mul, e2, e3]
      push_cast
      omega
  · rw [if_neg h, if_pos rfl, if_neg h, TT_some]
theorem p_swapped {M : Mem} (hL : LayC M) {l : List Nat} (hl : DL l) (hP : PLT M l) {p : Nat} (hp : p < 900) : f_X6_swapped M 27 (nI p) = some (if p + 1 < l.length ∧ l.getD p 0 ≠ l.getD (p + 1) 0 then nI (rank ((l.set p (l.getD (p + 1) 0)).set (p + 1) (l.getD p 0))) else -1) := by
  have h5 := hl.1
  have hv := hl.val
  apply TT.is
  unfold f_X6_swapped
  rw [show nI p + 1 = nI (p + 1) from nadd p 1, p_hasPlace hL hl hP (p := p) (by omega), p_hasPlace hL hl hP (p := p + 1) (by omega)]
  unfold LayC at hL
  simp only [hL, grd_T, hP.1, hP.2.1, Option.bind_some]
  by_cases h : p + 1 < l.length
  · rw [if_pos (show p < l.length by omega), if_neg (by decide), if_pos h, if_neg (by decide)]
    have g1 := getD_lt hl (k := p)
    have g2 := getD_lt hl (k := p + 1)
    have v5 : ∀ {k : Nat}, k < 5 → vp_in (nI k) 5 := fun hk => (nvp (by omega)).mpr hk
    rw [nclampI (by omega), nclampI (by omega), hP.2.2.1 p (by omega), hP.2.2.1 (p + 1) h, TT_grd, TT_grd, TT_if]
    refine ⟨v5 (by omega), v5 (by omega), fun he => ?_, fun hne => ?_⟩
    · rw [neqI (by omega) (by omega)] at he
      rw [if_neg (fun q => q.2 he), TT_some]
    · rw [neqI (by omega) (by omega)] at hne
      rw [if_pos ⟨h, hne⟩]
      obtain ⟨a, x, b', hab, ha, hb'⟩ := cut_at (show p < l.length by omega)
      cases b' with
      | nil =>
        simp only [List.length_nil] at hb'
        omega
      | cons y b =>
        rw [List.length_cons] at hb'
        obtain ⟨u1, u2⟩ := pw_le (m := l.length - 1 - p) (by omega)
        have hs : stN l.length ≤ stN 6 := stN_mono (by omega) (by omega)
        have h66 : stN 6 = 9331 := rfl
        rw [show nI l.length - 1 = nI (l.length - 1) from nsub (b := 1) (by omega), show nI l.length - 2 = nI (l.length - 2) from nsub (b := 2) (by omega), nsub (a := l.length - 1) (b := p) (by omega), nsub (a := l.length - 2) (b := p) (by omega), pwV_n (by omega), pwV_n (by omega), stV_n (by omega)]
        simp only [bv, TT_grd, TT_some]
        refine ⟨v5 (by omega), v5 (by omega), (nvp (by omega)).mpr (by omega), (nvp (by omega)).mpr (by omega), (nvp (by omega)).mpr (by omega), ?_⟩
        have e0 : l.getD p 0 = x := by rw [hab, ← ha, get_app]
        have e00 : l.getD (p + 1) 0 = y := by
          have : l = (a ++ [x]) ++ y :: b := by rw [hab]; simp
          rw [this, show p + 1 = (a ++ [x]).length by simp [ha], get_app]
        have e1 : (l.set p y).set (p + 1) x = a ++ y :: x :: b := by
          have s1 : l.set p y = a ++ y :: y :: b := by rw [hab, ← ha, sett_app]
          have s2 : a ++ y :: y :: b = (a ++ [y]) ++ y :: b := by simp
          rw [s1, s2, show p + 1 = (a ++ [y]).length by simp [ha], sett_app]
          simp
        have e2 : val l = val a * 6 ^ (b.length + 1 + 1) + (x * 6 ^ (b.length + 1) + (y * 6 ^ b.length + val b)) := by rw [hab, val_app, val_cons, val_cons, List.length_cons, List.length_cons]
        have e3 : val ((l.set p y).set (p + 1) x) = val a * 6 ^ (b.length + 1 + 1) + (y * 6 ^ (b.length + 1) + (x * 6 ^ b.length + val b)) := by rw [e1, val_app, val_cons, val_cons, List.length_cons, List.length_cons]
        rw [e0, e00, rank_val, List.length_set, List.length_set, show l.length - 1 - p = b.length + 1 by omega, show l.length - 2 - p = b.length by omega, e3, e2]
        simp only [nI_ii, ii_add, ii_sub, ii_mul]
        congr 1
        rw [Int.sub_mul, Int.mul_sub, Int.mul_sub]
        push_cast
        omega
  · rw [show (if p + 1 < l.length ∧ l.getD p 0 ≠ l.getD (p + 1) 0 then nI (rank ((l.set p (l.getD (p + 1) 0)).set (p + 1) (l.getD p 0))) else -1) = -1 from if_neg (fun q => h q.1)]
    by_cases h1 : p < l.length
    · rw [if_pos h1, if_neg (by decide), if_neg h, if_pos rfl, TT_some]
    · rw [if_neg h1, if_pos rfl, TT_some]
