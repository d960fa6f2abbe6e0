/-! what becomes of a plate -/
theorem qd {q d r : Nat} (h : r < d) : (q * d + r) / d = q ∧ (q * d + r) % d = r := by
  refine ⟨?_, ?_⟩
  · rw [Nat.mul_comm, Nat.mul_add_div (by omega), Nat.div_eq_of_lt h]
    omega
  · rw [Nat.mul_comm, Nat.mul_add_mod, Nat.mod_eq_of_lt h]
theorem pw_le {m : Nat} (h : m ≤ 5) : 0 < 6 ^ m ∧ 6 ^ m ≤ 7776 := ⟨Nat.pow_pos (by decide), Nat.le_trans (Nat.pow_le_pow_right (by decide) h) (by decide)⟩
theorem DL.val {l : List Nat} (h : DL l) : val l < 7776 := by
  have h1 := val_lt h.2
  have h2 := (pw_le h.1).2
  omega
theorem DL.rank {l : List Nat} (h : DL l) : rank l < 9331 := h.rev.rk
theorem p_hasPlace {M : Mem} (hL : LayC M) {l : List Nat} (hl : DL l) (hP : PLT M l) {p : Nat} (hp : p < 1000) : f_X6_hasPlace M 27 (nI p) = some (if p < l.length then 1 else 0) := by
  have h5 := hl.1
  unfold f_X6_hasPlace
  unfold LayC at hL
  simp only [hL, grd_T, hP.1]
  rw [if_neg (by simp (disch := omega) only [nlit, nltI]; omega)]
  by_cases h : p < l.length
  · rw [if_neg (by simp (disch := omega) only [nleI]; omega), if_pos h]
  · rw [if_pos (by simp (disch := omega) only [nleI]; omega), if_neg h]
theorem p_hasRoomAt {M : Mem} (hL : LayC M) {l : List Nat} (hl : DL l) (hP : PLT M l) {p : Nat} (hp : p < 1000) : f_X6_hasRoomAt M 27 (nI p) = some (if p ≤ l.length ∧ l.length < 5 then 1 else 0) := by
  have h5 := hl.1
  unfold f_X6_hasRoomAt
  unfold LayC at hL
  simp only [hL, grd_T, hP.1]
  rw [if_neg (by simp (disch := omega) only [nlit, nltI]; omega)]
  by_cases h : p ≤ l.length
  · rw [if_neg (by simp (disch := omega) only [nltI]; omega)]
    by_cases h2 : l.length < 5
    · rw [if_neg (by simp (disch := omega) only [nlit, nleI]; omega), if_pos ⟨h, h2⟩]
    · rw [if_pos (by simp (disch := omega) only [nlit, nleI]; omega), if_neg (fun q => h2 q.2)]
  · rw [if_pos (by simp (disch := omega) only [nltI]; omega), if_neg (fun q => h q.1)]
theorem p_without {M : Mem} (hL : LayC M) {l : List Nat} (hl : DL l) (hP : PLT M l) {p : Nat} (hp : p < 1000) : f_X6_without M 27 (nI p) = some (if p < l.length then nI (rank (l.eraseIdx p)) else -1) := by
  have h5 := hl.1
  have hv := hl.val
  apply TT.is
  unfold f_X6_without
  rw [p_hasPlace hL hl hP hp]
  unfold LayC at hL
  simp only [hL, grd_T, hP.1, hP.2.1, Option.bind_some]
  by_cases h : p < l.length
  · rw [if_pos h, if_neg (by decide), if_pos h]
    obtain ⟨a, x, b, hab, ha, hb⟩ := cut_at h
    obtain ⟨u1, u2⟩ := pw_le (m := l.length - 1 - p) (by omega)
    have hs : stN (l.length - 1) ≤ stN 6 := stN_mono (by omega) (by omega)
    have h66 : stN 6 = 9331 := rfl
    rw [show nI l.length - 1 = nI (l.length - 1) from nsub (b := 1) (by omega), nsub (by omega), pwV_n (by omega), stV_n (by omega)]
    simp only [bv]
    rw [show nI (6 ^ (l.length - 1 - p)) * 6 = nI (6 ^ (l.length - 1 - p) * 6) from nmul _ 6]
    simp (disch := omega) only [TT_grd, nvp, nlit, neqI, ndiv, nrem, nmul, nadd, TT_some]
    refine ⟨by omega, by omega, by omega, by omega, ?_⟩
    congr 1
    have e1 : l.eraseIdx p = a ++ b := by rw [hab, ← ha, era_app]
    have e2 : val l = val a * (6 ^ b.length * 6) + (x * 6 ^ b.length + val b) := by
      rw [hab, val_app, val_cons, List.length_cons, Nat.pow_succ]
    have hx : x < 6 := hl.2 x (by rw [hab]; simp)
    have hbv : val b < 6 ^ b.length := val_lt (fun d hd => hl.2 d (by rw [hab]; simp [hd]))
    have e3 : x * 6 ^ b.length + val b < 6 ^ b.length * 6 := by
      have : x * 6 ^ b.length ≤ 5 * 6 ^ b.length := Nat.mul_le_mul_right _ (by omega)
      omega
    have e4 : val l = (val a * 6 + x) * 6 ^ b.length + val b := by
      rw [e2, Nat.add_mul, Nat.mul_comm (6 ^ b.length) 6, ← Nat.mul_assoc]
      omega
    rw [rank_val, e1, ← hb, List.length_append]
    rw [show l.length - 1 = a.length + b.length by omega]
    have q1 := (qd (q := val a) e3).1
    have q2 := (qd (q := val a * 6 + x) hbv).2
    rw [← e2] at q1
    rw [← e4] at q2
    rw [q1, q2, val_app]
    omega
  · rw [if_neg h, if_pos rfl, if_neg h, TT_some]
theorem p_with {M : Mem} (hL : LayC M) {l : List Nat} (hl : DL l) (hP : PLT M l) {p t : Nat} (hp : p < 1000) (ht : t < 6) : f_X6_with M 27 (nI p) (nI t) = some (if p ≤ l.length ∧ l.length < 5 then nI (rank (l.insertIdx p t)) else -1) := by
  have h5 := hl.1
  have hv := hl.val
  apply TT.is
  unfold f_X6_with
  rw [p_hasRoomAt hL hl hP hp]
  unfold LayC at hL
  simp only [hL, grd_T, hP.1, hP.2.1, Option.bind_some]
  by_cases h : p ≤ l.length ∧ l.length < 5
  · rw [if_pos h, if_neg (by decide), if_pos h]
    obtain ⟨a, b, hab, ha, hb⟩ := cut_in h.1
    obtain ⟨u1, u2⟩ := pw_le (m := l.length - p) (by omega)
    have hs : stN (l.length + 1) ≤ stN 6 := stN_mono (by omega) (by omega)
    have h66 : stN 6 = 9331 := rfl
    rw [show nI l.length + 1 = nI (l.length + 1) from nadd _ 1, nsub (by omega), pwV_n (by omega), stV_n (by omega)]
    simp only [bv]
    simp (disch := omega) only [TT_grd, nvp, nlit, neqI, ndiv, nrem, nmul, nadd, TT_some]
    refine ⟨by omega, by omega, by omega, by omega, ?_⟩
    congr 1
    have e1 : l.insertIdx p t = a ++ t :: b := by rw [hab, ← ha, ins_app]
    have e2 : val l = val a * 6 ^ b.length + val b := by rw [hab, val_app]
    have hbv : val b < 6 ^ b.length := val_lt (fun d hd => hl.2 d (by rw [hab]; simp [hd]))
    rw [rank_val, e1, ← hb, List.length_append, List.length_cons]
    rw [show l.length + 1 = a.length + (b.length + 1) by omega]
    obtain ⟨q1, q2⟩ := qd (q := val a) hbv
    rw [← e2] at q1 q2
    rw [q1, q2, val_app, val_cons, List.length_cons, Nat.pow_succ, Nat.add_mul, Nat.mul_assoc, Nat.mul_comm 6]
    omega
  · rw [if_neg h, if_pos rfl, if_neg h, TT_some]
theorem p_doubled {M : Mem} (hL : LayC M) {l : List Nat} (hl : DL l) (hP : PLT M l) {p : Nat} (hp : p < 1000) : f_X6_doubled M 27 (nI p) = some (if p < l.length ∧ l.length < 5 then nI (rank (l.insertIdx p (l.getD p 0))) else -1) := by
  have h5 := hl.1
  have hL0 := hL
  unfold f_X6_doubled
  rw [p_hasPlace hL hl hP hp]
  unfold LayC at hL
  simp only [hL, grd_T, Option.bind_some]
  by_cases h : p < l.length
  · rw [if_pos h, if_neg (by decide), nclampI (by omega), hP.2.2.1 p h, p_with hL0 hl hP hp (getD_lt hl)]
    rw [show grd (vp_in (nI p) 5) _ = _ from grd_t ((nvp (by omega)).mpr (by omega))]
    show some _ = some _
    congr 1
    by_cases h2 : l.length < 5
    · rw [if_pos ⟨by omega, h2⟩, if_pos ⟨h, h2⟩]
    · rw [if_neg (fun q => h2 q.2), if_neg (fun q => h2 q.2)]
  · rw [if_neg h, if_pos rfl, if_neg (fun q => h q.1)]
