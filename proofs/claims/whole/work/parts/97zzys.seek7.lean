theorem sks_step {W : Nat → Nat → Nat} {n L d : Nat} (hn : n ≤ 6) (hd : d < n) {x : Nat → Nat} (hx : XNR W n x) (hL : L < 1000000) (bW : ∀ i j, W i j ≤ 1000000) {g : Mem → Nat → Int32 → Int32 → Int32 → Option Mem} (ih : SKS W n L x g (d + 1)) : SKS W n L x (b_X5_seek g) d := by
  intro M m rt hS hm hv hA hR hc hX
  have h64 : 2 ^ n ≤ 64 := Nat.le_trans (Nat.pow_le_pow_right (by omega) hn) (by decide)
  obtain ⟨l1, l2, l3, l4, l5, l6, l7⟩ := lyP hS.1
  obtain ⟨q1, q2, q3, q4, q5, q6⟩ := lyP3 hS.1
  obtain ⟨b1', b2⟩ := sfr_le (f := x) (n := n) (B := 1000000) (fun i hi => (hx i hi).1) (n - d) (by omega)
  have b3 : 1000000 * (n - d) ≤ 6000000 := by omega
  obtain ⟨v1, v2⟩ := hS.2.2.1 (n - d) (by omega)
  rw [show n - (n - d) = d from by omega] at v1 v2
  have hsplit : (enc n m d * (n + 1)) * (n + 1) ^ (n - (d + 1)) = enc n m d * (n + 1) ^ (n - d) := by
    rw [show n - d = (n - (d + 1)) + 1 from by omega, Nat.pow_succ, Nat.mul_assoc, Nat.mul_comm (n + 1)]
  -- what a good row of this block costs
  have cost : ∀ c, (∀ k, k < d → mkC n c k = m k) → GDL W n L c → sfr x n (n - d) ≤ (L - cs W m d) + dfr x n (n - d) ∧ (rt ≠ -1 → sfr x n (n - d) ≤ L - cs W m d) ∧ cs W m d ≤ L := fun c hcb hg => by
    obtain ⟨⟨⟨r, r1, r2, r3⟩, ha⟩, hcc⟩ := hg
    have e1 := cs_split (W := W) (m := mkC n c) (n := n) (n - d) (by omega)
    rw [show n - (n - d) = d from by omega, cs_cg hcb] at e1
    have hxk : ∀ k i, k < n → mkC n c k = some i → x k ≤ W i k := fun k i hk hmk => by
      have hi := mkC_lt (by omega) hmk
      have hik : i ≠ k := fun q => by
        subst q
        exact AC.no (s := 0) hk hmk rfl ha
      refine (hx k hk).2.1 i hi ?_
      rw [clr_bit (by omega) (by omega), all_bit]
      simp [hi, hik]
    obtain ⟨f1, f2⟩ := floor_le hxk r3 (n - d) (by omega)
    refine ⟨by omega, fun hrt => ?_, hc⟩
    rcases hR with ⟨z, _⟩ | ⟨r', z1, z2, z3, z4⟩
    · exact absurd z hrt
    · have hrr : r' = r := r3 r' (by omega) (by rw [hcb r' z1]; exact z3)
      have := f1 (fun k h1 h2 q => by
        have := r3 k h2 q
        omega)
      omega
  have prune : (∀ c, (∀ k, k < d → mkC n c k = m k) → ¬ GDL W n L c) → TT (some M) (fun M1 => Fr Spd M M1 ∧ (∀ k, k < d → mI M1 37 k = mI M 37 k) ∧ RWS W n L M1 ((enc n m d + 1) * (n + 1) ^ (n - d))) := fun hno => by
    rw [TT_some]
    refine ⟨Fr.rf, fun _ _ => rfl, ?_⟩
    rw [Nat.add_mul, Nat.one_mul]
    exact hX.no (fun c h1 h2 => hno c (blk_in (u := enc n m d) (by omega) hv rfl h1 (by rw [Nat.add_mul, Nat.one_mul]; exact h2)))
  rw [seek5_eq, grd_y l1, hS.2.1.1, if_pos ((nltI (by omega) (by omega)).mpr hd), q1, Option.bind_some, grd_y q2, q3, grd_y ((nvp (by omega)).mpr (by omega)), nclampI (by omega), v1, hS.2.2.2, TT_bv]
  rcases id hR with ⟨rfl, hno⟩ | ⟨r, r1, rfl, r2, r3⟩
  · rw [if_pos rfl, q4, Option.bind_some, grd_y q5, q6, grd_y ((nvp (by omega)).mpr (by omega)), v2, TT_bv]
    by_cases w : cs W m d + sfr x n (n - d) ≤ L + dfr x n (n - d)
    · rw [if_pos ((left_n (by omega) (by omega) (by omega) (by omega)).mpr w), TT_bv, if_pos rfl, l5, Option.bind_some, grd_y l6, l7, grd_y ((nvp (by omega)).mpr (by omega)), TT_bv, nsucc d, TT_bind]
      have f1 : Fr (fun a _ => a = 37) M (wI M 37 d (-1)) := Fr.rf.wI rfl
      have e37 : ∀ k, k ≠ d → mI (wI M 37 d (-1)) 37 k = mI M 37 k := fun k hk2 => mI_wI_ne hk2
      have e37d : mI (wI M 37 d (-1)) 37 d = -1 := mI_wIs
      generalize wI M 37 d (-1) = M1 at f1 e37 e37d
      have f1' : Fr Spd M M1 := f1.up (fun a k w => Or.inl w)
      have hvu : ∀ k j, k < d + 1 → upM m d none k = some j → j < n := fun k j hk2 h => by
        by_cases z : k = d
        · subst z
          rw [upM_d] at h
          cases h
        · rw [← upM_lt (o := none) (show k < d by omega)] at h
          exact hv k j (by omega) h
      have hencd : enc n (upM m d none) d = enc n m d := enc_cg d (fun k hk2 => (upM_lt hk2).symm)
      have henc : enc n (upM m d none) (d + 1) = enc n m d * (n + 1) := by
        rw [enc, hencd, upM_d]
        rfl
      have hcs : cs W (upM m d none) (d + 1) = cs W m d := by
        rw [cs_succ, cs_cg (m' := m) (fun k hk2 => (upM_lt hk2).symm)]
        unfold cst
        rw [upM_d]
        exact Nat.add_zero _
      have hA' : AC (upM m d none) (d + 1) := (hA.cg (fun k hk2 => upM_lt hk2)).snoc (fun j hj => by
        rw [upM_d] at hj
        cases hj)
      have hR' : RTD (upM m d none) (d + 1) (nI d) := Or.inr ⟨d, by omega, rfl, upM_d, fun k hk2 h => by
        refine Classical.byContradiction (fun z => ?_)
        rw [← upM_lt (show k < d by omega)] at h
        exact hno k (by omega) h⟩
      have hcall := ih M1 (upM m d none) (nI d) (hS.fr f1') (fun k hk2 => by
        by_cases z : k = d
        · rw [z, e37d, upM_d]
          rfl
        · rw [e37 k z, ← upM_lt (show k < d by omega)]
          exact hm k (by omega)) hvu hA' hR' (by rw [hcs]; exact hc) (by rw [henc, hsplit]; exact hX.fr f1)
      rw [hcs, henc] at hcall
      refine hcall.mono ?_
      rintro M2 ⟨f2, k2, rr2⟩
      have hk2 : ∀ k, k < d → mI M2 37 k = mI M 37 k := fun k hk => by rw [k2 k (by omega), e37 k (by omega)]
      refine (sks_loop hn hd hL bW ih hS (f1'.tr f2) (fun k hk => by rw [hk2 k hk]; exact hm k hk) hv hA hR hc rr2).mono ?_
      rintro M3 ⟨f3, k3, rr3⟩
      exact ⟨f3, fun k hk => by rw [k3 k hk, hk2 k hk], rr3⟩
    · rw [if_neg (fun q => w ((left_n (by omega) (by omega) (by omega) (by omega)).mp q))]
      refine prune (fun c hcb hg => w ?_)
      have := cost c hcb hg
      omega
  · have hne : ¬ nI r = -1 := neg1_nI (by omega)
    rw [if_neg hne, TT_bv, show (0 : Int32) = nI 0 from rfl]
    by_cases w : cs W m d + sfr x n (n - d) ≤ L + 0
    · rw [if_pos (show nI 0 ≤ ((nI L - nI (cs W m d)) - nI (sfr x n (n - d))) + nI 0 from (left_n (by omega) (by omega) (by omega) (by omega)).mpr w), TT_bv, if_neg hne]
      -- no second one comes of none
      have hvu : ∀ k j, k < d + 1 → upM m d none k = some j → j < n := fun k j hk2 h => by
        by_cases z : k = d
        · subst z
          rw [upM_d] at h
          cases h
        · rw [← upM_lt (o := none) (show k < d by omega)] at h
          exact hv k j (by omega) h
      have hencd : enc n (upM m d none) d = enc n m d := enc_cg d (fun k hk2 => (upM_lt hk2).symm)
      have henc : enc n (upM m d none) (d + 1) = enc n m d * (n + 1) := by
        rw [enc, hencd, upM_d]
        rfl
      have hX2 : RWS W n L M ((enc n m d * (n + 1) + 1) * (n + 1) ^ (n - (d + 1))) := by
        rw [Nat.add_mul, Nat.one_mul]
        rw [← hsplit] at hX
        refine hX.no (fun c h1 h2 hg => ?_)
        have hcb := blk_in (u := enc n m d * (n + 1)) hd hvu henc h1 (by rw [Nat.add_mul, Nat.one_mul]; exact h2)
        obtain ⟨⟨⟨r', z1, z2, z3⟩, -⟩, -⟩ := hg
        have e1 := z3 d hd (by rw [hcb d (by omega), upM_d])
        have e2 := z3 r (by omega) (by rw [hcb r (by omega), ← upM_lt r1]; exact r2)
        omega
      exact sks_loop hn hd hL bW ih hS Fr.rf hm hv hA hR hc hX2
    · rw [if_neg (show ¬ nI 0 ≤ ((nI L - nI (cs W m d)) - nI (sfr x n (n - d))) + nI 0 from fun q => w ((left_n (by omega) (by omega) (by omega) (by omega)).mp q))]
      refine prune (fun c hcb hg => w ?_)
      have := (cost c hcb hg).2.1 hne
      omega
theorem sks_all {W : Nat → Nat → Nat} {n L : Nat} (hn0 : 0 < n) (hn : n ≤ 6) {x : Nat → Nat} (hx : XNR W n x) (hL : L < 1000000) (bW : ∀ i j, W i j ≤ 1000000) : ∀ t, t ≤ n → ∀ f, t < f → SKS W n L x (G_X5_seek f) (n - t)
  | 0, _, f, hf => by
    obtain ⟨f', rfl⟩ : ∃ f', f = f' + 1 := ⟨f - 1, by omega⟩
    exact sks_leaf hn0 hn hL (G_X5_seek f')
  | t + 1, ht, f, hf => by
    obtain ⟨f', rfl⟩ : ∃ f', f = f' + 1 := ⟨f - 1, by omega⟩
    have ih := sks_all hn0 hn hx hL bW t (by omega) f' (by omega)
    rw [show n - t = (n - (t + 1)) + 1 from by omega] at ih
    exact sks_step hn (by omega) hx hL bW ih
/-- the Pedigree's search -/
def Sse (a k : Nat) : Prop := (37 ≤ a ∧ a ≤ 41) ∨ (a = 34 ∧ (k = 10 ∨ k = 11))
theorem search_eq {M : Mem} {a0 : Nat} : f_X5_search M a0 = grd (okO M 5 a0) (bv (wI M a0 11 0) (fun M2 => Option.bind (f_X5_workFewest M2 a0) (fun q6 => Option.bind (f_X5_workFloor q6 a0) (fun q11 => Option.bind (mR q11 a0 4) (fun r16 => grd (okO q11 14 r16) (grd (vp_in ((sl 1 (mI q11 a0 7)) - 1) (mL q11 r16)) (bv (wI q11 a0 10 (mI q11 r16 ((sl 1 (mI q11 a0 7)) - 1).toNatClampNeg)) (fun M19 => if 1000000 ≤ (mI M19 a0 10) then (some M19) else (Option.bind (f_X5_seek 100 M19 a0 0 (-1) 0) (fun q23 => some q23)))))))))) := rfl
/-- what LINES have: the least cost L (FAR: none), how many rows, the first -/
def LNS (W : Nat → Nat → Nat) (n : Nat) (M : Mem) : Prop := ∃ L, (L < 1000000 → ∃ c, c < (n + 1) ^ n ∧ GDL W n L c) ∧ (∀ c, TREE (mkC n c) n → L ≤ cs W (mkC n c) n) ∧ L ≤ 1000000 ∧ mI M 34 10 = nI L ∧ ((L = 1000000 ∧ mI M 34 11 = nI 0) ∨ (L < 1000000 ∧ RWS W n L M ((n + 1) ^ n)))
theorem c_search {M : Mem} (hC : LayC M) {n : Nat} (hn0 : 0 < n) (hn : n ≤ 6) {W : Nat → Nat → Nat} (hW : PDW M n W) (bW : ∀ i j, W i j ≤ 1000000) : TT (f_X5_search M 34) (fun M1 => Fr Sse M M1 ∧ LNS W n M1) := by
  have h64 : 2 ^ n ≤ 64 := Nat.le_trans (Nat.pow_le_pow_right (by omega) hn) (by decide)
  have h2 : 2 ≤ 2 ^ n := by
    have : 2 ^ 1 ≤ 2 ^ n := Nat.pow_le_pow_right (by omega) hn0
    omega
  rw [search_eq, grd_y (lyP hC).1, TT_bv]
  have f0 : Fr Sse M (wI M 34 11 0) := Fr.rf.wI (Or.inr ⟨rfl, Or.inr rfl⟩)
  have e0 : mI (wI M 34 11 0) 34 11 = nI 0 := mI_wIs
  generalize wI M 34 11 0 = M0 at f0 e0
  have hC0 := hC.fr f0
  have hW0 := hW.fr f0 (by unfold Sse; omega) (fun k => by unfold Sse; omega)
  rw [TT_bind]
  refine (c_workFewest hC0 hn0 hn hW0 bW).mono ?_
  rintro M1 ⟨f1, F, hF, hFb, vF⟩
  have hC1 := hC0.fr f1
  have hW1 := hW0.fr f1 (by unfold S39; omega) (fun k => by unfold S39; omega)
  rw [TT_bind]
  refine (c_workFloor hC1 hn0 hn hW1 bW).mono ?_
  rintro M2 ⟨f2, x, hx, hfl⟩
  have hC2 := hC1.fr f2
  have hW2 := hW1.fr f2 (by unfold S401; omega) (fun k => by unfold S401; omega)
  obtain ⟨-, -, -, -, -, -, p7, p8, p9⟩ := lyP2 hC2
  have eF : mI M2 39 (2 ^ n - 1) = nI (F (2 ^ n - 1)) := by
    rw [f2.i (by unfold S401; omega)]
    exact vF _ (by omega) (by omega)
  rw [p7, Option.bind_some, grd_y p8, hW2.1, one_n n (by omega), show (1 : Int32) = nI 1 from rfl, nsub (by omega), p9, grd_y ((nvp (by omega)).mpr (by omega)), nclampI (by omega), eF, TT_bv]
  have f3 : Fr (fun a k => a = 34 ∧ k = 10) M2 (wI M2 34 10 (nI (F (2 ^ n - 1)))) := Fr.rf.wI ⟨rfl, rfl⟩
  have e10 : mI (wI M2 34 10 (nI (F (2 ^ n - 1)))) 34 10 = nI (F (2 ^ n - 1)) := mI_wIs
  generalize wI M2 34 10 (nI (F (2 ^ n - 1))) = M3 at f3 e10
  obtain ⟨mn1, mn2⟩ := few_min hn0 hn hF
  have hLb := hFb (2 ^ n - 1)
  generalize F (2 ^ n - 1) = L at e10 mn1 mn2 hLb
  have fA : Fr Sse M M3 := ((f0.tr (f1.up (fun a k w => by unfold S39 at w; unfold Sse; omega))).tr (f2.up (fun a k w => by unfold S401 at w; unfold Sse; omega))).tr (f3.up (fun a k w => by unfold Sse; omega))
  have e11 : mI M3 34 11 = nI 0 := by
    rw [f3.i (by omega), f2.i (by unfold S401; omega), f1.i (by unfold S39; omega)]
    exact e0
  rw [e10]
  by_cases w : L < 1000000
  · rw [if_neg (show ¬ (1000000 : Int32) ≤ nI L from fun q : nI 1000000 ≤ nI L => by have := (nleI (by omega) (by omega)).mp q; omega), TT_bind]
    have hS : PDS W n L x M3 := ⟨hC2.fr f3, hW2.fr f3 (by omega) (fun k => by omega), fun t ht => ⟨by rw [f3.i (by omega)]; exact (hfl t ht).1, by rw [f3.i (by omega)]; exact (hfl t ht).2⟩, e10⟩
    have hall := sks_all hn0 hn hx w bW n (Nat.le_refl _) 100 (by omega)
    rw [Nat.sub_self] at hall
    have hr0 : RWS W n L M3 (enc n (fun _ => none) 0 * (n + 1) ^ (n - 0)) := by
      rw [show enc n (fun _ => none) 0 = 0 from rfl, Nat.zero_mul]
      exact ⟨e11, fun c hc => by cases hc⟩
    have := hall M3 (fun _ => none) (-1) hS (fun k hk => by omega) (fun k i hk => by omega) (fun k hk => by omega) (Or.inl ⟨rfl, fun k hk => by omega⟩) (Nat.zero_le _) hr0
    refine (show TT (f_X5_seek 100 M3 34 0 (-1) 0) _ from this).mono ?_
    rintro M4 ⟨f4, _, r4⟩
    rw [TT_some]
    refine ⟨fA.tr (f4.up (fun a k w => by unfold Spd at w; unfold Sse; omega)), L, mn1, mn2, hLb, by rw [f4.i (by unfold Spd; omega)]; exact e10, Or.inr ⟨w, ?_⟩⟩
    rw [show enc n (fun _ => none) 0 = 0 from rfl, Nat.zero_add, Nat.one_mul, Nat.sub_zero] at r4
    exact r4
  · rw [if_pos (show (1000000 : Int32) ≤ nI L from show nI 1000000 ≤ nI L from (nleI (by omega) (by omega)).mpr (by omega)), TT_some]
    exact ⟨fA, L, mn1, mn2, hLb, e10, Or.inl ⟨by omega, e11⟩⟩
