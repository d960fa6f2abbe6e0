/-! row(): a DISH on the tape -/
noncomputable def daB (M : Mem) (a0 : Nat) (p2 : Int32) : Int32 × Int32 → Option ((Int32 × Int32) ⊕ (Int32 ⊕ Unit)) := (fun s1 => if p2 ≤ s1.2 then (some (.inr (.inl s1.1))) else (grd (okO M 7 a0) (Option.bind (f_X7_byteAt M a0 s1.2) (fun q14 => if q14 ≤ 6 then (Option.bind (f_X7_byteAt M a0 s1.2) (fun q17 => bv ((s1.1 * 10) + q17 : Int32) (fun x20 => bv (s1.2 + 1 : Int32) (fun x21 => some (.inl (x20, x21)))))) else (some (.inr (.inr ())))))))
theorem dishAt_eq {M : Mem} {a0 : Nat} {p1 p2 : Int32} : f_X7_dishAt M a0 p1 p2 = if (p2 - p1) ≤ 5 then (Option.bind (loopO (daB M a0 p2) (0, p1)) (Sum.elim (fun (x9 : Int32) => Option.bind (f_X6_rankOf x9) (fun q22 => some q22)) (fun (x11 : Unit) => some (-1)))) else (some (-1)) := rfl
noncomputable def riB (s11 : Mem × Int32 × Int32) (x2 : Int32) (a0 : Nat) : Int32 × Int32 × Int32 → Option ((Int32 × Int32 × Int32) ⊕ (Int32 × Int32 × Int32)) := (fun s20 => if x2 ≤ s20.1 then (some (.inr (s20.1, s20.2.1, s20.2.2))) else (Option.bind (mR s11.1 a0 15) (fun r28 => grd (okO s11.1 13 r28) (grd (vp_in s20.1 (mL s11.1 r28)) (if (mI s11.1 r28 s20.1.toNatClampNeg) = 0 then (some (.inr (s20.1, s20.2.1, s20.2.2))) else (bv (fun (s32 : Int32) => bv (fun (s36 : Int32) => bv (s20.1 + 1 : Int32) (fun x39 => some (.inl (x39, s32, s36)))) (fun j35 => if s32 = 0 then (j35 0) else (Option.bind (mR s11.1 a0 15) (fun r40 => grd (okO s11.1 13 r40) (grd (vp_in s20.1 (mL s11.1 r40)) (j35 ((10 * s20.2.2) + (mI s11.1 r40 s20.1.toNatClampNeg)))))))) (fun j31 => bv (fun (s44 : Unit) => j31 0) (fun j43 => if s20.2.1 = 0 then (j43 ()) else (Option.bind (mR s11.1 a0 15) (fun r47 => grd (okO s11.1 13 r47) (grd (vp_in s20.1 (mL s11.1 r47)) (Option.bind (f_X12_lies (mI s11.1 r47 s20.1.toNatClampNeg) 1 6) (fun q50 => if q50 = 0 then (j43 ()) else (if 5 ≤ (s20.1 - s11.2.2) then (j43 ()) else (j31 1)))))))))))))))
def sgl (bt : Nat → Nat) (a k : Nat) : List Nat := (List.range k).map (fun i => bt (a + i) - 1)
theorem sgl_succ (bt : Nat → Nat) (a k : Nat) : sgl bt a (k + 1) = sgl bt a k ++ [bt (a + k) - 1] := by
  unfold sgl
  rw [List.range_succ, List.map_append]
  rfl
theorem sgl_len (bt : Nat → Nat) (a k : Nat) : (sgl bt a k).length = k := by
  unfold sgl
  rw [List.length_map, List.length_range]
/-- the bytes of a DISH are good ones -/
def okS (bt : Nat → Nat) (a k : Nat) : Prop := ∀ i, i < k → bt (a + i) ≤ 6
theorem sgl_DL {bt : Nat → Nat} {a k : Nat} (hk : k ≤ 5) (h : okS bt a k) : DL (sgl bt a k) := by
  refine ⟨by rw [sgl_len]; exact hk, fun d hd => ?_⟩
  unfold sgl at hd
  obtain ⟨i, h1, h2⟩ := List.mem_map.mp hd
  have := h i (List.mem_range.mp h1)
  omega
theorem num_sgl {bt : Nat → Nat} {a k : Nat} (h : 1 ≤ bt (a + k)) : num (sgl bt a (k + 1)) = 10 * num (sgl bt a k) + bt (a + k) := by
  rw [sgl_succ, num_snoc]
  omega
def okB (bt : Nat → Nat) (a k : Nat) : Bool := (List.range k).all (fun i => decide (bt (a + i) ≤ 6))
theorem okB_iff {bt : Nat → Nat} {a k : Nat} : okB bt a k = true ↔ okS bt a k := by
  unfold okB okS
  rw [List.all_eq_true]
  constructor
  · intro h i hi
    exact of_decide_eq_true (h i (List.mem_range.mpr hi))
  · intro h i hi
    exact decide_eq_true (h i (List.mem_range.mp hi))
def dOf (bt : Nat → Nat) (a b : Nat) : Option (List Nat) := if b - a ≤ 5 ∧ okB bt a (b - a) = true then some (sgl bt a (b - a)) else none
def rkO (o : Option (List Nat)) : Int32 := match o with
  | some l => nI (rank l)
  | none => -1
def TAPC (M : Mem) (n : Nat) (bt : Nat → Nat) : Prop := n ≤ 400 ∧ mI M 11 4 = nI n ∧ ∀ i, i < n → bt i < 256 ∧ mI M 12 i = nI (bt i)
theorem c_byteC {M : Mem} (hC : LayC M) {n : Nat} {bt : Nat → Nat} (ht : TAPC M n bt) {i : Nat} (hi : i ≤ n) : f_X7_byteAt M 11 (nI i) = some (if i < n then nI (bt i) else 0) := by
  obtain ⟨t1, t2, t3⟩ := ht
  unfold LayC at hC
  unfold f_X7_byteAt
  simp only [hC, grd_T, Option.bind_some]
  rw [if_neg (fun q => by rw [show (0 : Int32) = nI 0 from rfl] at q; have := (nltI (by omega) (by omega)).mp q; omega), t2]
  by_cases w : i < n
  · rw [if_neg (fun q => by have := (nleI (by omega) (by omega)).mp q; omega), if_neg (fun q => by rw [show (400 : Int32) = nI 400 from rfl] at q; have := (nleI (by omega) (by omega)).mp q; omega), grd_y ((nvp (by omega)).mpr (by omega)), nclampI (by omega), (t3 i w).2, if_pos w]
  · rw [if_pos ((nleI (by omega) (by omega)).mpr (by omega)), if_neg w]
theorem c_dishAt {M : Mem} (hC : LayC M) {n : Nat} {bt : Nat → Nat} (ht : TAPC M n bt) {a b : Nat} (hab : a ≤ b) (hb : b ≤ n) (hz : ∀ i, a ≤ i → i < b → bt i ≠ 0) : f_X7_dishAt M 11 (nI a) (nI b) = some (rkO (dOf bt a b)) := by
  have hC2 := hC
  unfold LayC at hC2
  have y0 : okO M 7 11 := by simp only [hC2]
  have t1 := ht.1
  rw [dishAt_eq, nsub hab]
  by_cases w : b - a ≤ 5
  · rw [if_pos (by rw [show (5 : Int32) = nI 5 from rfl, nleI (by omega) (by omega)]; exact w)]
    have key : TT (loopO (daB M 11 (nI b)) (nI 0, nI (a + 0))) (fun z => Sum.elim (fun x => okS bt a (b - a) ∧ x = nI (num (sgl bt a (b - a)))) (fun _ => ¬ okS bt a (b - a)) z) := by
      refine TT_for (b - a) (fun k s => s.2 = nI (a + k) ∧ s.1 = nI (num (sgl bt a k)) ∧ okS bt a k) ?_ (Nat.zero_le _) ⟨rfl, rfl, fun i hi => by omega⟩
      rintro k ⟨x, i⟩ hk ⟨q1, q2, q3⟩
      simp only at q1 q2
      subst q1 q2
      unfold daB
      simp only [bv]
      by_cases w2 : k < b - a
      · have hnz := hz (a + k) (by omega) (by omega)
        have hbt := (ht.2.2 (a + k) (by omega)).1
        rw [if_neg (fun q => by have := (nleI (by omega) (by omega)).mp q; omega), grd_y y0, c_byteC hC ht (by omega), if_pos (show a + k < n by omega), Option.bind_some, Option.bind_some]
        by_cases w3 : bt (a + k) ≤ 6
        · have hnum := num_le (sgl_DL (by omega) q3)
          rw [if_pos (by rw [show (6 : Int32) = nI 6 from rfl, nleI (by omega) (by omega)]; exact w3), TT_some, show (10 : Int32) = nI 10 from rfl, nmul, nadd, nsucc]
          refine ⟨w2, rfl, ?_, fun i hi => ?_⟩
          · show nI _ = nI _
            rw [num_sgl (by omega), Nat.mul_comm]
          · by_cases e : i = k
            · rw [e]; exact w3
            · exact q3 i (by omega)
        · rw [if_neg (fun q => by rw [show (6 : Int32) = nI 6 from rfl] at q; have := (nleI (by omega) (by omega)).mp q; omega), TT_some]
          exact fun q => w3 (q k w2)
      · have ek : k = b - a := by omega
        subst ek
        rw [if_pos ((nleI (by omega) (by omega)).mpr (by omega)), TT_some]
        exact ⟨q3, rfl⟩
    obtain ⟨z, e, hz2⟩ := key
    rw [show ((0 : Int32), nI a) = (nI 0, nI (a + 0)) from rfl, e, Option.bind_some]
    unfold dOf
    cases z with
    | inl x =>
      obtain ⟨z1, z2⟩ := hz2
      rw [if_pos ⟨w, okB_iff.mpr z1⟩]
      show Option.bind (f_X6_rankOf x) _ = _
      rw [z2, show f_X6_rankOf (nI (num (sgl bt a (b - a)))) = some (nI (rank (sgl bt a (b - a)))) from p_rankOf_y (sgl_DL w z1).rev]
      rfl
    | inr u =>
      have hz2 : ¬ okS bt a (b - a) := hz2
      rw [if_neg (fun q => hz2 (okB_iff.mp q.2))]
      rfl
  · rw [if_neg (fun q => by rw [show (5 : Int32) = nI 5 from rfl] at q; have := (nleI (by omega) (by omega)).mp q; omega)]
    unfold dOf
    rw [if_neg (fun q => w q.1)]
    rfl
/-- where a stretch of bytes ends -/
def sEm (bt : Nat → Nat) : Nat → Nat → Nat
  | 0, a => a
  | m + 1, a => if bt a = 0 then a else sEm bt m (a + 1)
theorem sEm_v {bt : Nat → Nat} : ∀ m a, a ≤ sEm bt m a ∧ sEm bt m a ≤ a + m ∧ (∀ i, a ≤ i → i < sEm bt m a → bt i ≠ 0) ∧ (sEm bt m a < a + m → bt (sEm bt m a) = 0) := by
  intro m
  induction m with
  | zero => intro a; exact ⟨Nat.le_refl _, Nat.le_refl _, fun i h1 h2 => by unfold sEm at h2; omega, fun h => by unfold sEm at h; omega⟩
  | succ m ih =>
    intro a
    unfold sEm
    by_cases w : bt a = 0
    · rw [if_pos w]
      exact ⟨Nat.le_refl _, by omega, fun i h1 h2 => by omega, fun _ => w⟩
    · rw [if_neg w]
      obtain ⟨h1, h2, h3, h4⟩ := ih (a + 1)
      refine ⟨by omega, by omega, fun i g1 g2 => ?_, fun g => h4 (by omega)⟩
      by_cases e : i = a
      · rw [e]; exact w
      · exact h3 i (by omega) g2
def sE (bt : Nat → Nat) (n a : Nat) : Nat := sEm bt (n - a) a
theorem sE_v {bt : Nat → Nat} {n a : Nat} (h : a ≤ n) : a ≤ sE bt n a ∧ sE bt n a ≤ n ∧ (∀ i, a ≤ i → i < sE bt n a → bt i ≠ 0) ∧ (sE bt n a < n → bt (sE bt n a) = 0) := by
  obtain ⟨h1, h2, h3, h4⟩ := sEm_v (bt := bt) (n - a) a
  unfold sE
  exact ⟨h1, by omega, h3, fun g => h4 (by omega)⟩
theorem sE_un {bt : Nat → Nat} {n a b : Nat} (h : a ≤ n) (hab : a ≤ b) (hb : b ≤ n) (hz : ∀ i, a ≤ i → i < b → bt i ≠ 0) (he : b < n → bt b = 0) : sE bt n a = b := by
  obtain ⟨h1, h2, h3, h4⟩ := sE_v (bt := bt) h
  rcases Nat.lt_trichotomy (sE bt n a) b with w | w | w
  · exact absurd (h4 (by omega)) (hz _ h1 w)
  · exact w
  · exact absurd (he (by omega)) (h3 b hab w)
