/-! LAYOUT of the class's fixed cells -/
def LayC (M : Mem) : Prop := okO M 11 0 ∧ okO M 10 1 ∧ okO M 14 2 ∧ mL M 2 = 6 ∧ okO M 14 3 ∧ mL M 3 = 6 ∧ okO M 14 4 ∧ mL M 4 = 6 ∧ okO M 14 5 ∧ mL M 5 = 12 ∧ okO M 14 6 ∧ mL M 6 = 12 ∧ okO M 14 7 ∧ mL M 7 = 12 ∧ okO M 14 8 ∧ mL M 8 = 12 ∧ okO M 19 9 ∧ mL M 9 = 6 ∧ okO M 20 10 ∧ mL M 10 = 2 ∧ okO M 7 11 ∧ okO M 14 12 ∧ mL M 12 = 400 ∧ okO M 14 13 ∧ mL M 13 = 401 ∧ okO M 14 14 ∧ mL M 14 = 401 ∧ okO M 9 15 ∧ okO M 14 16 ∧ mL M 16 = 72 ∧ okO M 14 17 ∧ mL M 17 = 800 ∧ okO M 3 18 ∧ okO M 14 19 ∧ mL M 19 = 88 ∧ okO M 15 20 ∧ mL M 20 = 64 ∧ okO M 8 21 ∧ okO M 3 22 ∧ okO M 14 23 ∧ mL M 23 = 88 ∧ okO M 15 24 ∧ mL M 24 = 64 ∧ okO M 14 25 ∧ mL M 25 = 6480 ∧ okO M 1 26 ∧ okO M 6 27 ∧ okO M 14 28 ∧ mL M 28 = 5 ∧ okO M 14 29 ∧ mL M 29 = 6 ∧ okO M 14 30 ∧ mL M 30 = 45 ∧ okO M 14 31 ∧ mL M 31 = 45 ∧ okO M 4 32 ∧ okO M 18 33 ∧ mL M 33 = 3 ∧ okO M 5 34 ∧ okO M 14 35 ∧ mL M 35 = 6 ∧ okO M 14 36 ∧ mL M 36 = 36 ∧ okO M 14 37 ∧ mL M 37 = 6 ∧ okO M 14 38 ∧ mL M 38 = 6 ∧ okO M 14 39 ∧ mL M 39 = 64 ∧ okO M 14 40 ∧ mL M 40 = 7 ∧ okO M 14 41 ∧ mL M 41 = 7 ∧ okO M 0 42 ∧ okO M 15 43 ∧ mL M 43 = 0 ∧ okO M 15 44 ∧ mL M 44 = 0 ∧ okO M 14 45 ∧ mL M 45 = 5 ∧ okO M 14 46 ∧ mL M 46 = 61 ∧ mR M 0 0 = some 1 ∧ mR M 0 1 = some 10 ∧ mR M 0 2 = some 11 ∧ mR M 0 3 = some 18 ∧ mR M 0 4 = some 21 ∧ mR M 0 5 = some 26 ∧ mR M 0 6 = some 32 ∧ mR M 0 7 = some 34 ∧ mR M 0 8 = some 42 ∧ mR M 0 9 = some 45 ∧ mR M 0 10 = some 46 ∧ mR M 1 0 = some 2 ∧ mR M 1 1 = some 3 ∧ mR M 1 2 = some 4 ∧ mR M 1 3 = some 5 ∧ mR M 1 4 = some 6 ∧ mR M 1 5 = some 7 ∧ mR M 1 6 = some 8 ∧ mR M 1 7 = some 9 ∧ mR M 11 0 = some 12 ∧ mR M 11 1 = some 13 ∧ mR M 11 2 = some 14 ∧ mR M 11 3 = some 15 ∧ mR M 15 0 = some 16 ∧ mR M 15 1 = some 17 ∧ mR M 18 0 = some 19 ∧ mR M 18 1 = some 20 ∧ mR M 21 0 = some 1 ∧ mR M 21 1 = some 22 ∧ mR M 21 2 = some 25 ∧ mR M 22 0 = some 23 ∧ mR M 22 1 = some 24 ∧ mR M 26 0 = some 1 ∧ mR M 26 1 = some 21 ∧ mR M 26 2 = some 27 ∧ mR M 26 3 = some 30 ∧ mR M 26 4 = some 31 ∧ mR M 27 0 = some 28 ∧ mR M 27 1 = some 29 ∧ mR M 32 0 = some 1 ∧ mR M 32 1 = some 21 ∧ mR M 32 2 = some 33 ∧ mR M 34 0 = some 35 ∧ mR M 34 1 = some 36 ∧ mR M 34 2 = some 37 ∧ mR M 34 3 = some 38 ∧ mR M 34 4 = some 39 ∧ mR M 34 5 = some 40 ∧ mR M 34 6 = some 41 ∧ mR M 42 0 = some 1 ∧ mR M 42 1 = some 21 ∧ mR M 42 2 = some 26
theorem LayC.fr {S : Nat → Nat → Prop} {M M1 : Mem} (h : LayC M) (hf : Fr S M M1) : LayC M1 := by
  obtain ⟨h1, h2, h3, h4, h5, -⟩ := hf
  unfold LayC okO at h ⊢
  rw [h1, h3, h4, h5]
  exact h
theorem LayC_wI {M : Mem} {a k : Nat} {v : Int32} : LayC (wI M a k v) = LayC M := rfl
theorem LayC_wJ {M : Mem} {a k : Nat} {v : Int64} : LayC (wJ M a k v) = LayC M := rfl
/-! the value of a row of pinches -/
def val (l : List Nat) : Nat := vr l.reverse
theorem vr_app2 : ∀ (s t : List Nat), vr (s ++ t) = vr s + 6 ^ s.length * vr t
  | [], t => by simp [vr]
  | d :: s, t => by
    have h := vr_app2 s t
    rw [List.cons_append, vr, h, vr, List.length_cons, Nat.pow_succ, Nat.mul_add, Nat.mul_assoc, Nat.mul_left_comm]
    omega
theorem val_app (a b : List Nat) : val (a ++ b) = val a * 6 ^ b.length + val b := by
  unfold val
  rw [List.reverse_append, vr_app2, List.length_reverse, Nat.mul_comm]
  omega
theorem val_cons (x : Nat) (b : List Nat) : val (x :: b) = x * 6 ^ b.length + val b := by
  have h := val_app [x] b
  have e : val [x] = x := by simp [val, vr]
  rw [e] at h
  exact h
theorem val_lt {l : List Nat} (h : ∀ d ∈ l, d < 6) : val l < 6 ^ l.length := by
  have := vr_lt l.reverse (fun d hd => h d (List.mem_reverse.mp hd))
  rw [List.length_reverse] at this
  exact this
theorem rank_val (l : List Nat) : rank l = stN l.length + val l := by
  unfold rank rk val
  rw [List.length_reverse]
theorem cut_at {l : List Nat} {p : Nat} (h : p < l.length) : ∃ a x b, l = a ++ x :: b ∧ a.length = p ∧ b.length = l.length - 1 - p := by
  refine ⟨l.take p, l[p], l.drop (p + 1), ?_, ?_, ?_⟩
  · rw [List.getElem_cons_drop]
    exact (List.take_append_drop p l).symm
  · rw [List.length_take]
    omega
  · rw [List.length_drop]
    omega
theorem cut_in {l : List Nat} {p : Nat} (h : p ≤ l.length) : ∃ a b, l = a ++ b ∧ a.length = p ∧ b.length = l.length - p := ⟨l.take p, l.drop p, (List.take_append_drop p l).symm, by rw [List.length_take]; omega, by rw [List.length_drop]⟩
theorem era_app : ∀ (a : List Nat) (x : Nat) (b : List Nat), (a ++ x :: b).eraseIdx a.length = a ++ b
  | [], x, b => by simp
  | y :: a, x, b => by
    have h := era_app a x b
    rw [List.cons_append, List.length_cons, List.eraseIdx_cons_succ, h]
    rfl
theorem ins_app : ∀ (a b : List Nat) (t : Nat), (a ++ b).insertIdx a.length t = a ++ t :: b
  | [], b, t => by simp
  | y :: a, b, t => by
    have h := ins_app a b t
    rw [List.cons_append, List.length_cons, List.insertIdx_succ_cons, h]
    rfl
theorem sett_app : ∀ (a : List Nat) (x : Nat) (b : List Nat) (t : Nat), (a ++ x :: b).set a.length t = a ++ t :: b
  | [], x, b, t => by simp
  | y :: a, x, b, t => by
    have h := sett_app a x b t
    rw [List.cons_append, List.length_cons, List.set_cons_succ, h]
    rfl
theorem get_app : ∀ (a : List Nat) (x : Nat) (b : List Nat), (a ++ x :: b).getD a.length 0 = x := by
  intro a x b
  rw [List.getD_eq_getElem?_getD]
  simp
/-! a plate -/
def Spl (a k : Nat) : Prop := (a = 27 ∧ (k = 2 ∨ k = 3)) ∨ a = 28 ∨ a = 29
/-- the plate holds the dish l -/
def PLT (M : Mem) (l : List Nat) : Prop := mI M 27 2 = nI l.length ∧ mI M 27 3 = nI (val l) ∧ (∀ k, k < l.length → mI M 28 k = nI (l.getD k 0)) ∧ ∀ u, u < 6 → mI M 29 u = nI (l.count u)
theorem p_load {M : Mem} (hL : LayC M) {l : List Nat} (hl : DL l) : TT (f_X6_load M 27 (nI (rank l))) (fun M' => Fr Spl M M' ∧ PLT M' l) := by
  have h5 := hl.1
  have hD := hl.rev
  have hL0 := hL
  have hs : stN l.length ≤ stN 6 := stN_mono (by omega) (by omega)
  have h66 : stN 6 = 9331 := rfl
  have hrv := rank_val l
  have elen : f_X6_lengthOf (nI (rank l)) = some (nI l.length) := by
    have := p_lengthOf hD
    rw [List.length_reverse] at this
    exact this
  unfold f_X6_load
  rw [elen]
  unfold LayC at hL
  simp only [hL, Option.bind_some, grd_T, TT_bv, mI_wIs]
  rw [TT_grd]
  refine ⟨(nvp (by omega)).mpr (by omega), ?_⟩
  rw [stV_n (by omega), nsub (by omega), show rank l - stN l.length = val l by omega, TT_bv, TT_bind]
  refine TT.mono (Q := fun M' => Fr Spl M M' ∧ mI M' 27 2 = nI l.length ∧ mI M' 27 3 = nI (val l) ∧ ∀ u, u < 6 → mI M' 29 u = 0) ?_ ?_
  · refine TT_loop (fun s => ∃ k : Nat, s.2 = nI k ∧ k ≤ 6 ∧ Fr Spl M s.1 ∧ mI s.1 27 2 = nI l.length ∧ mI s.1 27 3 = nI (val l) ∧ ∀ u, u < k → mI s.1 29 u = 0) (fun s => 6 - s.2.toNatClampNeg) ?_ _ ⟨0, rfl, by omega, (Fr.rf.wI (Or.inl ⟨rfl, Or.inl rfl⟩)).wI (Or.inl ⟨rfl, Or.inr rfl⟩), by rw [mI_wI_ne (by decide), mI_wIs], mI_wIs, fun u hu => by omega⟩
    rintro ⟨M1, x⟩ ⟨k, hx, hk, hF, h1, h2, h3⟩
    simp only at hx hF h1 h2 h3 ⊢
    subst hx
    have hLL := hL0.fr hF
    unfold LayC at hLL
    simp only [hLL, Option.bind_some, grd_T]
    rw [TT_if]
    refine ⟨fun h => ?_, fun h => ?_⟩
    · simp (disch := omega) only [nlit, nleI] at h
      rw [TT_some]
      exact ⟨hF, h1, h2, fun u hu => h3 u (by omega)⟩
    · simp (disch := omega) only [nlit, nleI] at h
      rw [TT_grd, nvp (by omega), nclampI (by omega), TT_bv, TT_bv, TT_some]
      refine ⟨by omega, ⟨k + 1, nadd k 1, by omega, hF.wI (Or.inr (Or.inr rfl)), by rw [mI_wI_row (by decide)]; exact h1, by rw [mI_wI_row (by decide)]; exact h2, fun u hu => ?_⟩, ?_⟩
      · rw [mI_wI]
        by_cases huk : u = k
        · rw [if_pos ⟨rfl, huk⟩]
        · rw [if_neg (fun q => huk q.2)]
          exact h3 u (by omega)
      · simp only
        rw [show nI k + 1 = nI (k + 1) from nadd k 1, nclampI (by omega)]
        omega
  · rintro M1 ⟨hF, h1, h2, h3⟩
    rw [TT_bv, TT_bv, h1, h2, TT_bind]
    refine TT.mono (Q := fun M' => Fr Spl M M' ∧ PLT M' l) ?_ (fun M' h => TT_some.mpr h)
    refine TT_loop (fun s => ∃ (t pre : List Nat), l.reverse = pre ++ t ∧ s.2.1 = nI (vr t) ∧ s.2.2 = ii ((t.length : Int) - 1) ∧ Fr Spl M s.1 ∧ mI s.1 27 2 = nI l.length ∧ mI s.1 27 3 = nI (val l) ∧ (∀ k, t.length ≤ k → k < l.length → mI s.1 28 k = nI (l.getD k 0)) ∧ ∀ u, u < 6 → mI s.1 29 u = nI (pre.count u)) (fun s => (s.2.2.toInt + 1).toNat) ?_ _ ⟨l.reverse, [], rfl, rfl, ?_, hF, h1, h2, fun k q1 q2 => by rw [List.length_reverse] at q1; omega, fun u hu => by rw [h3 u hu]; rfl⟩
    · rintro ⟨M2, x, y⟩ ⟨t, pre, hpre, hx, hy, hF2, g1, g2, g3, g4⟩
      simp only at hx hy hF2 g1 g2 g3 g4 ⊢
      subst hx
      subst hy
      have hDt : DD t := by
        have hlen := congrArg List.length hpre
        rw [List.length_append, List.length_reverse] at hlen
        exact ⟨by omega, fun d hd => hD.2 d (by rw [hpre]; exact List.mem_append_right _ hd)⟩
      have htv := hDt.vr
      have hlen := congrArg List.length hpre
      rw [List.length_append, List.length_reverse] at hlen
      have hLL := hL0.fr hF2
      unfold LayC at hLL
      cases t with
      | nil =>
        rw [if_pos (by decide), TT_some]
        refine ⟨hF2, g1, g2, fun k hk => g3 k (by simp) hk, fun u hu => ?_⟩
        rw [g4 u hu]
        congr 1
        rw [List.append_nil] at hpre
        rw [← hpre, List.count_reverse]
      | cons d t =>
        obtain ⟨ht2, hd⟩ := hDt.tl
        obtain ⟨e1, e2⟩ := vr_div (t := t) hd
        rw [List.length_cons] at hlen
        have ek : ii ((((d :: t).length : Nat) : Int) - 1) = nI t.length := by
          rw [nI_ii, List.length_cons]
          congr 1
          omega
        have hcnt : pre.count d ≤ 5 := Nat.le_trans List.count_le_length (by omega)
        rw [ek, if_neg (by rw [show (0 : Int32) = nI 0 from rfl, nltI (by omega) (by omega)]; omega)]
        simp only [hLL, Option.bind_some, grd_T, TT_bv]
        rw [show (6 : Int32) = nI 6 from rfl, nrem (by omega) (by omega) (by omega), ndiv (by omega) (by omega) (by omega), e1, e2, TT_grd, nvp (by omega), nclampI (by omega), nclampI (by omega)]
        refine ⟨by omega, ?_⟩
        have hF3 := hF2.wI (a := 28) (k := t.length) (v := nI d) (Or.inr (Or.inl rfl))
        have hLL3 := hL0.fr hF3
        unfold LayC at hLL3
        simp only [bv, hLL3, Option.bind_some, grd_T]
        rw [TT_grd, nvp (by omega), mI_wI_row (by decide), g4 d hd, TT_some]
        refine ⟨by omega, ⟨t, pre ++ [d], by rw [hpre]; simp, rfl, ?_, hF3.wI (Or.inr (Or.inr rfl)), by rw [mI_wI_row (by decide), mI_wI_row (by decide)]; exact g1, by rw [mI_wI_row (by decide), mI_wI_row (by decide)]; exact g2, ?_, ?_⟩, ?_⟩
        · show nI t.length + (-1) = _
          rw [nI_ii t.length, ii_neg1, ii_add]
          congr 1
        · intro k q1 q2
          rw [mI_wI_row (by decide), mI_wI]
          by_cases hkt : k = t.length
          · subst hkt
            rw [if_pos ⟨rfl, rfl⟩]
            congr 1
            have hg : l.getD t.length 0 = d := by
              have e : l = t.reverse ++ [d] ++ pre.reverse := by
                have := congrArg List.reverse hpre
                rw [List.reverse_reverse] at this
                rw [this]
                simp
              rw [e, List.getD_eq_getElem?_getD]
              simp
            omega
          · rw [if_neg (fun q => hkt q.2)]
            exact g3 k (by rw [List.length_cons]; omega) q2
        · intro u hu
          rw [mI_wI, List.count_append, List.count_singleton]
          by_cases hud : u = d
          · subst hud
            rw [if_pos ⟨rfl, rfl⟩, show (1 : Int32) = nI 1 from rfl, nadd]
            simp
          · rw [if_neg (fun q => hud q.2), mI_wI_row (by decide), g4 u hu]
            have : ¬ d = u := fun e => hud e.symm
            simp [this]
        · show ((nI t.length + (-1)).toInt + 1).toNat < ((nI t.length).toInt + 1).toNat
          have e3 : nI t.length + (-1) = ii ((t.length : Int) - 1) := by
            rw [nI_ii t.length, ii_neg1, ii_add]
            congr 1
          rw [e3, nI_ii, ii_toInt ⟨by omega, by omega⟩, ii_toInt ⟨by omega, by omega⟩]
          omega
    · show nI l.length - 1 = _
      rw [List.length_reverse, show (1 : Int32) = ii 1 from rfl, nI_ii, ii_sub]
