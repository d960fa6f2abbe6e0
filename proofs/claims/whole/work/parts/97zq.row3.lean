/-! row(): the reference -/
theorem okB_succ (bt : Nat → Nat) (a k : Nat) : okB bt a (k + 1) = (okB bt a k && decide (bt (a + k) ≤ 6)) := by
  unfold okB
  rw [List.range_succ, List.all_append]
  simp
def okD (bt : Nat → Nat) (a k : Nat) : Bool := decide (k ≤ 5) && okB bt a k
theorem okD_succ (bt : Nat → Nat) (a k : Nat) : okD bt a (k + 1) = (okD bt a k && (decide (bt (a + k) ≤ 6) && decide (k < 5))) := by
  unfold okD
  rw [okB_succ]
  by_cases w : k < 5
  · simp [w, show k ≤ 5 by omega, show k + 1 ≤ 5 by omega]
  · simp [w, show ¬ k + 1 ≤ 5 by omega]
theorem okD_DL {bt : Nat → Nat} {a k : Nat} (h : okD bt a k = true) : DL (sgl bt a k) ∧ k ≤ 5 := by
  unfold okD at h
  simp only [Bool.and_eq_true, decide_eq_true_eq] at h
  exact ⟨sgl_DL h.1 (okB_iff.mp h.2), h.1⟩
theorem dOf_okD (bt : Nat → Nat) (a b : Nat) : dOf bt a b = if okD bt a (b - a) = true then some (sgl bt a (b - a)) else none := by
  unfold dOf okD
  simp only [Bool.and_eq_true, decide_eq_true_eq]
def TAPX (M : Mem) (n : Nat) (bt : Nat → Nat) : Prop := n ≤ 400 ∧ ∀ i, i < n → bt i < 256 ∧ mI M 56 i = sgB (bt i)
theorem sgB0 {b : Nat} (h : b < 256) : sgB b = 0 ↔ b = 0 := by
  have := sgB_eq (c := 0) (b := b) (by omega) h
  constructor
  · intro e
    exact this.mp (by rw [e]; rfl)
  · intro e
    rw [e]
    rfl
theorem sgB_16 {b : Nat} (h : b < 256) (h0 : b ≠ 0) : (1 ≤ sgB b ∧ sgB b ≤ 6) ↔ b ≤ 6 := by
  have t1 : (1 : Int32).toInt = 1 := rfl
  have t6 : (6 : Int32).toInt = 6 := rfl
  unfold sgB
  by_cases w : b < 128
  · rw [if_pos w]
    simp only [Int32.le_iff_toInt_le, nI_tI (show b < 2147483648 by omega), t1, t6]
    omega
  · rw [if_neg w]
    simp only [Int32.le_iff_toInt_le, ii_toInt (show R32 ((b : Int) - 256) from ⟨by omega, by omega⟩), t1, t6]
    omega
theorem sgB_n {b : Nat} (h : b < 128) : sgB b = nI b := by
  unfold sgB
  rw [if_pos h]
def dsI (bt : Nat → Nat) (a k : Nat) : Int32 := if okD bt a k = true then nI (num (sgl bt a k)) else 0
theorem r_row_I {M : Mem} (hM : LayM M) {n : Nat} {bt : Nat → Nat} (ht : TAPX M n bt) {a : Nat} (ha : a < n) (ca : Int32) : loopO (riB (M, ca, nI a) (nI n) 47) (nI a, 1, 0) = some (nI (sE bt n a), b1 (okD bt a (sE bt n a - a)), dsI bt a (sE bt n a - a)) := by
  obtain ⟨t1, t2⟩ := ht
  have hM2 := hM
  unfold LayM at hM2
  have key : TT (loopO (riB (M, ca, nI a) (nI n) 47) (nI (a + 0), b1 (okD bt a 0), dsI bt a 0)) (fun z => z = (nI (sE bt n a), b1 (okD bt a (sE bt n a - a)), dsI bt a (sE bt n a - a))) := by
    refine TT_for (n - a) (fun k s => s = (nI (a + k), b1 (okD bt a k), dsI bt a k) ∧ ∀ i, a ≤ i → i < a + k → bt i ≠ 0) ?_ (Nat.zero_le _) ⟨rfl, fun i h1 h2 => by omega⟩
    rintro k s hk ⟨rfl, q2⟩
    unfold riB
    simp only [hM2, grd_T, Option.bind_some, bv]
    by_cases w : k < n - a
    · obtain ⟨b1', b2⟩ := t2 (a + k) (by omega)
      rw [if_neg (fun q => by have := (nleI (by omega) (by omega)).mp q; omega), grd_y ((nvp (by omega)).mpr (by omega)), nclampI (by omega), b2]
      by_cases w0 : bt (a + k) = 0
      · rw [if_pos ((sgB0 b1').mpr w0), TT_some]
        have he : sE bt n a = a + k := sE_un (by omega) (by omega) (by omega) q2 (fun _ => w0)
        show (nI (a + k), b1 (okD bt a k), dsI bt a k) = _
        rw [he, show a + k - a = k by omega]
      · have hz : ∀ i, a ≤ i → i < a + (k + 1) → bt i ≠ 0 := fun i h1 h2 => by
          by_cases e : i = a + k
          · rw [e]; exact w0
          · exact q2 i h1 (by omega)
        have es := okD_succ bt a k
        rw [if_neg (fun q => w0 ((sgB0 b1').mp q)), lies_bind, nsub (by omega), show a + k - a = k by omega, nsucc]
        have fin : ∀ (v : Bool) (d : Int32), okD bt a (k + 1) = v → d = dsI bt a (k + 1) → TT (some (Sum.inl (nI (a + k + 1), b1 v, d))) (fun (r : (Int32 × Int32 × Int32) ⊕ (Int32 × Int32 × Int32)) => r.elim (fun s' => k < n - a ∧ s' = (nI (a + (k + 1)), b1 (okD bt a (k + 1)), dsI bt a (k + 1)) ∧ ∀ i, a ≤ i → i < a + (k + 1) → bt i ≠ 0) (fun z => z = (nI (sE bt n a), b1 (okD bt a (sE bt n a - a)), dsI bt a (sE bt n a - a)))) := by
          intro v d e1 e2
          rw [TT_some, e2, ← e1]
          exact ⟨w, rfl, hz⟩
        have no : okD bt a (k + 1) = false → TT (some (Sum.inl (nI (a + k + 1), (0 : Int32), (0 : Int32)))) (fun (r : (Int32 × Int32 × Int32) ⊕ (Int32 × Int32 × Int32)) => r.elim (fun s' => k < n - a ∧ s' = (nI (a + (k + 1)), b1 (okD bt a (k + 1)), dsI bt a (k + 1)) ∧ ∀ i, a ≤ i → i < a + (k + 1) → bt i ≠ 0) (fun z => z = (nI (sE bt n a), b1 (okD bt a (sE bt n a - a)), dsI bt a (sE bt n a - a)))) := by
          intro e
          refine fin false 0 e ?_
          unfold dsI
          rw [if_neg (by rw [e]; decide)]
        simp only [if_true]
        have gv : vp_in (nI (a + k)) 400 := (nvp (by omega)).mpr (by omega)
        cases hk2 : okD bt a k with
        | false =>
          rw [if_pos (show b1 false = 0 from rfl)]
          exact no (by rw [es, hk2]; rfl)
        | true =>
          rw [if_neg (show ¬ b1 true = 0 by decide), grd_y gv]
          obtain ⟨hdl, hk5⟩ := okD_DL hk2
          have hnum := num_le hdl
          by_cases w6 : bt (a + k) ≤ 6
          · rw [if_pos ((sgB_16 b1' w0).mpr w6)]
            by_cases w5 : k < 5
            · rw [if_neg (fun q => by rw [show (5 : Int32) = nI 5 from rfl] at q; have := (nleI (by omega) (by omega)).mp q; omega), if_neg (show ¬ (1 : Int32) = 0 by decide), grd_y gv]
              have e1 : okD bt a (k + 1) = true := by
                rw [es, hk2]
                simp [w6, w5]
              refine fin true _ e1 ?_
              unfold dsI
              rw [if_pos hk2, if_pos e1, sgB_n (by omega), show (10 : Int32) = nI 10 from rfl, nmul, nadd, num_sgl (by omega)]
            · rw [if_pos (by rw [show (5 : Int32) = nI 5 from rfl, nleI (by omega) (by omega)]; omega)]
              exact no (by rw [es, hk2]; simp [w5])
          · rw [if_neg (fun q => w6 ((sgB_16 b1' w0).mp q))]
            exact no (by rw [es, hk2]; simp [w6])
    · have he : sE bt n a = a + k := sE_un (by omega) (by omega) (by omega) q2 (fun g => by omega)
      rw [if_pos ((nleI (by omega) (by omega)).mpr (by omega)), TT_some]
      show (nI (a + k), b1 (okD bt a k), dsI bt a k) = _
      rw [he, show a + k - a = k by omega]
  obtain ⟨z, e, hz⟩ := key
  rw [hz] at e
  exact e
def Sr3 (a k : Nat) : Prop := (a = 49 ∧ ((18 ≤ k ∧ k < 54) ∨ k = 56)) ∨ (a = 47 ∧ k = 12)
def RRI (M : Mem) (y : Nat) (st : List (Option Nat × Nat × List Nat) × Nat × Nat) (M' : Mem) : Prop := Fr Sr3 M M' ∧ KST (mI M' 49) st.1 y ∧ mI M' 47 12 = nI st.2.2
theorem addm_r3 {M M' : Mem} {n : Nat} (hn : n < 12) {p1 p2 p3 : Int32} (h : Fr Sr3 M M') : Fr Sr3 M (ADDM M' n p1 p2 p3) := by
  unfold ADDM
  exact (((h.wI (show Sr3 49 (18 + 3 * n) by unfold Sr3; omega)).wI (show Sr3 49 (18 + 3 * n + 1) by unfold Sr3; omega)).wI (show Sr3 49 (18 + 3 * n + 2) by unfold Sr3; omega)).wI (show Sr3 49 56 by unfold Sr3; omega)
theorem r_row_L {M M0 : Mem} (hM : LayM M) {n : Nat} {bt : Nat → Nat} (ht : TAPX M n bt) {A : List (Option Nat × Nat × List Nat)} {y : Nat} (h0 : RRI M y (A, 0, 0) M0) : TT (loopO (rwR1 (nI n) 47) (M0, 0, 0)) (fun x => RRI M y (rwS bt n y (n + 1) 0 (A, 0, 0)) x.1 ∧ x.2 = nI (rwS bt n y (n + 1) 0 (A, 0, 0)).2.1) := by
  have h400 := ht.1
  refine TT_loop (fun s => ∃ a st, s.2.2 = nI a ∧ a ≤ n + 1 ∧ RRI M y st s.1 ∧ s.2.1 = nI st.2.1 ∧ rwS bt n y (n + 1) a st = rwS bt n y (n + 1) 0 (A, 0, 0)) (fun s => n + 2 - s.2.2.toNatClampNeg) ?_ _ ⟨0, (A, 0, 0), rfl, by omega, h0, rfl, rfl⟩
  rintro ⟨M1, ca, fr⟩ ⟨a, st, q1, q2, ⟨r1, r2, r3⟩, q4, q5⟩
  simp only at q1 r1 r2 r3 q4
  subst q1 q4
  have hM1 := hM.fr r1
  have hM12 := hM1
  have ht1 : TAPX M1 n bt := ⟨h400, fun i hi => by rw [r1.i (by unfold Sr3; omega)]; exact ht.2 i hi⟩
  unfold LayM at hM12
  have c54 : (54 : Int32).toNatClampNeg = 54 := by decide
  have c56 : (56 : Int32).toNatClampNeg = 56 := by decide
  have g54 : vp_in 54 5666 := show vp_in (nI 54) 5666 from (nvp (by omega)).mpr (by omega)
  have g56 : vp_in 56 5666 := show vp_in (nI 56) 5666 from (nvp (by omega)).mpr (by omega)
  unfold rwR1
  simp only [hM12, grd_T, Option.bind_some, bv, c54, c56]
  by_cases w : n ≤ a
  · rw [if_pos ((nleI (by omega) (by omega)).mpr w), TT_some]
    rw [rwS_end _ _ _ w] at q5
    subst q5
    exact ⟨⟨r1, r2, r3⟩, rfl⟩
  · obtain ⟨v1, v2, v3, v4⟩ := sE_v (bt := bt) (n := n) (a := a) (by omega)
    rw [if_neg (fun q => w ((nleI (by omega) (by omega)).mp q)), r_row_I hM1 ht1 (by omega), Option.bind_some]
    simp only
    have hgo := rwS_go (bt := bt) (n := n) (y := y) (f := n + 1) (a := a) (st := st) (by omega) (by omega) rfl
    rw [q5] at hgo
    generalize sE bt n a = b at *
    rw [nsucc]
    have tail : ∀ (M2 : Mem) st2, RRI M y st2 M2 → rwS bt n y (n + 1) (b + 1) st2 = rwS bt n y (n + 1) 0 (A, 0, 0) → TT (some (Sum.inl (M2, nI st2.2.1, nI (b + 1)))) (fun (r : (Mem × Int32 × Int32) ⊕ (Mem × Int32)) => r.elim (fun s' => (∃ a st, s'.2.2 = nI a ∧ a ≤ n + 1 ∧ RRI M y st s'.1 ∧ s'.2.1 = nI st.2.1 ∧ rwS bt n y (n + 1) a st = rwS bt n y (n + 1) 0 (A, 0, 0)) ∧ n + 2 - s'.2.2.toNatClampNeg < n + 2 - (nI a).toNatClampNeg) (fun x => RRI M y (rwS bt n y (n + 1) 0 (A, 0, 0)) x.1 ∧ x.2 = nI (rwS bt n y (n + 1) 0 (A, 0, 0)).2.1)) := by
      intro M2 st2 g1 g2
      rw [TT_some]
      refine ⟨⟨b + 1, st2, rfl, by omega, g1, rfl, g2⟩, ?_⟩
      show n + 2 - (nI (b + 1)).toNatClampNeg < _
      rw [nclampI (by omega), nclampI (by omega)]
      omega
    unfold rwU at hgo
    by_cases wb : b ≤ a
    · rw [if_pos wb] at hgo
      rw [if_pos ((nleI (by omega) (by omega)).mpr wb)]
      exact tail M1 st ⟨r1, r2, r3⟩ hgo.symm
    · rw [if_neg wb, dOf_okD] at hgo
      rw [if_neg (fun q => wb ((nleI (by omega) (by omega)).mp q))]
      have lost : rwS bt n y (n + 1) (b + 1) (st.1, st.2.1, st.2.2 + 1) = rwS bt n y (n + 1) 0 (A, 0, 0) → TT (some (Sum.inl (wI M1 47 12 (mI M1 47 12 + 1), nI st.2.1 + 0, nI (b + 1)))) (fun (r : (Mem × Int32 × Int32) ⊕ (Mem × Int32)) => r.elim (fun s' => (∃ a st, s'.2.2 = nI a ∧ a ≤ n + 1 ∧ RRI M y st s'.1 ∧ s'.2.1 = nI st.2.1 ∧ rwS bt n y (n + 1) a st = rwS bt n y (n + 1) 0 (A, 0, 0)) ∧ n + 2 - s'.2.2.toNatClampNeg < n + 2 - (nI a).toNatClampNeg) (fun x => RRI M y (rwS bt n y (n + 1) 0 (A, 0, 0)) x.1 ∧ x.2 = nI (rwS bt n y (n + 1) 0 (A, 0, 0)).2.1)) := by
        intro g
        rw [show (nI st.2.1 + 0 : Int32) = nI st.2.1 from Int32.add_zero _]
        refine tail _ (st.1, st.2.1, st.2.2 + 1) ⟨r1.wI (Or.inr ⟨rfl, rfl⟩), ?_, ?_⟩ g
        · rw [mI_wI_row (by decide)]
          exact r2
        · rw [mI_wIs, r3, nsucc]
      have z0 : (0 : Int32) = 0 := rfl
      cases hok : okD bt a (b - a) with
      | false =>
        rw [hok] at hgo
        rw [if_pos (show b1 false = 0 from rfl)]
        simp only [if_true]
        exact lost hgo.symm
      | true =>
        obtain ⟨hdl, hk5⟩ := okD_DL hok
        rw [hok, if_pos rfl] at hgo
        simp only at hgo
        rw [if_neg (show ¬ b1 true = 0 by decide), grd_y g56, r2.2.1]
        by_cases w12 : st.1.length < 12
        · rw [if_pos w12] at hgo
          rw [if_neg (fun q => by rw [show (12 : Int32) = nI 12 from rfl] at q; have := (nleI (by omega) (by omega)).mp q; omega)]
          simp only [if_neg (show ¬ (1 : Int32) = 0 by decide)]
          rw [grd_y g54, r2.2.2.1, show dsI bt a (b - a) = nI (num (sgl bt a (b - a))) from by unfold dsI; rw [if_pos hok], r_adds hM1 w12 r2.2.1, Option.bind_some, nsucc]
          have hF := addm_r3 (n := st.1.length) w12 (p1 := -1) (p2 := nI y) (p3 := nI (num (sgl bt a (b - a)))) r1
          have e49 : mI (ADDM M1 st.1.length (-1) (nI y) (nI (num (sgl bt a (b - a))))) 49 = KADD (mI M1 49) st.1.length (-1) (nI y) (nI (num (sgl bt a (b - a)))) := funext (fun k => addm_49 k)
          have e12 : mI (ADDM M1 st.1.length (-1) (nI y) (nI (num (sgl bt a (b - a))))) 47 12 = nI st.2.2 := by
            unfold ADDM
            rw [mI_wI_row (by decide), mI_wI_row (by decide), mI_wI_row (by decide), mI_wI_row (by decide)]
            exact r3
          generalize ADDM M1 st.1.length (-1) (nI y) (nI (num (sgl bt a (b - a)))) = M3 at *
          refine tail _ (st.1 ++ [(none, y, sgl bt a (b - a))], st.2.1 + 1, st.2.2) ⟨hF.wI (Or.inr ⟨rfl, rfl⟩), ?_, ?_⟩ hgo.symm
          · rw [mI_wI_row (by decide), e49]
            exact r2.addN w12 hdl
          · rw [mI_wIs, e12]
            exact Int32.add_zero _
        · rw [if_neg w12] at hgo
          have e12 : st.1.length = 12 := by have := r2.1; omega
          rw [if_pos (by rw [e12]; decide)]
          simp only [if_true]
          exact lost hgo.symm
