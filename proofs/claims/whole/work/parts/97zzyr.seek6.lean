/-- a row that is no tree, or costs more, is not good: what a block has in common -/
theorem sks_leaf {W : Nat → Nat → Nat} {n L : Nat} (hn0 : 0 < n) (hn : n ≤ 6) {x : Nat → Nat} (hL : L < 1000000) (g : Mem → Nat → Int32 → Int32 → Int32 → Option Mem) : SKS W n L x (b_X5_seek g) n := by
  intro M m rt hS hm hv hA hR hc hX
  obtain ⟨l1, -⟩ := lyP hS.1
  have hb := enc_blk hv
  have hlt := enc_lt n hv
  have hp := pow6 hn (Nat.le_refl n)
  rw [Nat.sub_self, Nat.pow_zero, Nat.mul_one] at hX
  rw [seek5_eq, grd_y l1, hS.2.1.1, if_neg (fun q => by have := (nltI (by omega) (by omega)).mp q; omega), hS.2.2.2, Nat.sub_self, Nat.pow_zero, Nat.mul_one]
  have htree : (∃ r, r < n ∧ m r = none ∧ ∀ k, k < n → m k = none → k = r) → (GDL W n L (enc n m n) ↔ cs W m n = L) := fun hr => by
    have ht : TREE (mkC n (enc n m n)) n := TREE.cg (fun k hk => (hb k hk).symm) ⟨hr, hA⟩
    unfold GDL
    rw [cs_cg hb]
    exact ⟨fun q => q.2, fun q => ⟨ht, q⟩⟩
  rcases hR with ⟨rfl, hno⟩ | ⟨r, r1, rfl, r2, r3⟩
  · rw [if_pos rfl, TT_some]
    refine ⟨Fr.rf, fun _ _ => rfl, hX.no (j := 1) (fun c h1 h2 => ?_)⟩
    have : c = enc n m n := by omega
    subst this
    rintro ⟨⟨⟨r, r1, r2, -⟩, -⟩, -⟩
    rw [hb r r1] at r2
    exact hno r r1 r2
  · rw [if_neg (neg1_nI (by omega))]
    by_cases w : cs W m n = L
    · rw [if_pos (by rw [w]), TT_bind]
      refine (c_noteRow hn hS (by omega) hX ((htree ⟨r, r1, r2, r3⟩).mpr w) (fun k hk => by rw [hb k hk]; exact hm k hk)).mono ?_
      rintro M1 ⟨f1, k1, r1'⟩
      rw [TT_some]
      exact ⟨f1, fun k _ => k1 k, r1'⟩
    · rw [if_neg (fun q => w ((neqI (by omega) (by omega)).mp q)), TT_some]
      refine ⟨Fr.rf, fun _ _ => rfl, hX.no (j := 1) (fun c h1 h2 => ?_)⟩
      have : c = enc n m n := by omega
      subst this
      rw [htree ⟨r, r1, r2, r3⟩]
      exact w
/-- all MOTHERS of one daughter are tried -/
theorem sks_loop {W : Nat → Nat → Nat} {n L d : Nat} (hn : n ≤ 6) (hd : d < n) {x : Nat → Nat} (hL : L < 1000000) (bW : ∀ i j, W i j ≤ 1000000) {g : Mem → Nat → Int32 → Int32 → Int32 → Option Mem} (ih : SKS W n L x g (d + 1)) {M0 M : Mem} {m : Nat → Option Nat} {rt : Int32} (hS : PDS W n L x M0) (hF : Fr Spd M0 M) (hm : MTR M m d) (hv : ∀ k i, k < d → m k = some i → i < n) (hA : AC m d) (hR : RTD m d rt) (hc : cs W m d ≤ L) (hX : RWS W n L M ((enc n m d * (n + 1) + 1) * (n + 1) ^ (n - (d + 1)))) : TT (skT g 34 (nI d) rt (nI (cs W m d)) M) (fun M1 => Fr Spd M0 M1 ∧ (∀ k, k < d → mI M1 37 k = mI M 37 k) ∧ RWS W n L M1 ((enc n m d + 1) * (n + 1) ^ (n - d))) := by
  unfold skT
  rw [TT_bind]
  have hXe : (enc n m d * (n + 1) + (n + 1)) * (n + 1) ^ (n - (d + 1)) = (enc n m d + 1) * (n + 1) ^ (n - d) := by
    rw [show n - d = (n - (d + 1)) + 1 from by omega, Nat.pow_succ, show enc n m d * (n + 1) + (n + 1) = (enc n m d + 1) * (n + 1) from by rw [Nat.add_mul, Nat.one_mul], Nat.mul_assoc, Nat.mul_comm (n + 1)]
  refine (TT_for n (fun i s => ∃ M', s = (M', nI i) ∧ Fr Spd M0 M' ∧ (∀ k, k < d → mI M' 37 k = mI M 37 k) ∧ RWS W n L M' ((enc n m d * (n + 1) + (i + 1)) * (n + 1) ^ (n - (d + 1)))) (Q := fun M1 => Fr Spd M0 M1 ∧ (∀ k, k < d → mI M1 37 k = mI M 37 k) ∧ RWS W n L M1 ((enc n m d + 1) * (n + 1) ^ (n - d))) ?_ (Nat.zero_le _) ⟨M, rfl, hF, fun _ _ => rfl, hX⟩).mono (fun x hx => TT_some.mpr hx)
  rintro i s hi ⟨M', rfl, hf, hk, hr⟩
  have hS' := hS.fr hf
  obtain ⟨l1, l2, l3, l4, l5, l6, l7⟩ := lyP hS'.1
  unfold sk5
  simp only
  rw [hS'.2.1.1]
  by_cases w : i = n
  · rw [if_pos ((nleI (by omega) (by omega)).mpr (by omega)), TT_some]
    subst w
    rw [hXe] at hr
    exact ⟨hf, hk, hr⟩
  · have hlt : i < n := by omega
    have hWi := bW i d
    have hm' : MTR M' m d := fun k hkd => by rw [hk k hkd]; exact hm k hkd
    rw [if_neg (fun q => w (by have := (nleI (by omega) (by omega)).mp q; omega)), l2, Option.bind_some, grd_y l3, l4, show nI i * 6 = nI (i * 6) from nmul i 6, nadd, grd_y ((nvp (by omega)).mpr (by omega)), nclampI (by omega), hS'.2.1.2 i d hlt hd, TT_bv, TT_bv, hS'.2.2.2, nadd]
    have hvu : ∀ k j, k < d + 1 → upM m d (some i) k = some j → j < n := fun k j hk2 h => by
      by_cases z : k = d
      · subst z
        rw [upM_d] at h
        cases h
        exact hlt
      · rw [← upM_lt (o := some i) (show k < d by omega)] at h
        exact hv k j (by omega) h
    have hencd : enc n (upM m d (some i)) d = enc n m d := enc_cg d (fun k hk2 => (upM_lt hk2).symm)
    have henc : enc n (upM m d (some i)) (d + 1) = enc n m d * (n + 1) + (i + 1) := by
      rw [enc, hencd, upM_d]
      rfl
    have hcs : cs W (upM m d (some i)) (d + 1) = cs W m d + W i d := by
      rw [cs_succ, cs_cg (m' := m) (fun k hk2 => (upM_lt hk2).symm)]
      unfold cst
      rw [upM_d]
    -- the block of this MOTHER is passed by
    have skip : (∀ c, (∀ k, k < d + 1 → mkC n c k = upM m d (some i) k) → ¬ GDL W n L c) → TT (some (Sum.inl (M', nI i + 1)) : Option ((Mem × Int32) ⊕ Mem)) (fun r => r.elim (fun s' => i < n ∧ ∃ M', s' = (M', nI (i + 1)) ∧ Fr Spd M0 M' ∧ (∀ k, k < d → mI M' 37 k = mI M 37 k) ∧ RWS W n L M' ((enc n m d * (n + 1) + (i + 1 + 1)) * (n + 1) ^ (n - (d + 1)))) (fun M1 => Fr Spd M0 M1 ∧ (∀ k, k < d → mI M1 37 k = mI M 37 k) ∧ RWS W n L M1 ((enc n m d + 1) * (n + 1) ^ (n - d)))) := fun hno => by
      rw [TT_some]
      refine ⟨hlt, M', by rw [nsucc], hf, hk, ?_⟩
      have := hr.no (j := (n + 1) ^ (n - (d + 1))) (fun c h1 h2 => hno c (blk_in (u := enc n m d * (n + 1) + (i + 1)) hd hvu henc h1 (by rw [Nat.add_mul _ 1, Nat.one_mul]; exact h2)))
      rw [show (enc n m d * (n + 1) + (i + 1 + 1)) * (n + 1) ^ (n - (d + 1)) = (enc n m d * (n + 1) + (i + 1)) * (n + 1) ^ (n - (d + 1)) + (n + 1) ^ (n - (d + 1)) from by rw [← Nat.add_assoc, Nat.add_mul _ 1, Nat.one_mul]]
      exact this
    by_cases w1 : L < cs W m d + W i d
    · rw [if_pos ((nltI (by omega) (by omega)).mpr w1)]
      refine skip (fun c hcb ⟨_, hcc⟩ => ?_)
      have e1 := cs_split (W := W) (m := mkC n c) (n := n) (n - (d + 1)) (by omega)
      rw [show n - (n - (d + 1)) = d + 1 from by omega, cs_cg hcb, hcs] at e1
      omega
    · rw [if_neg (fun q => w1 ((nltI (by omega) (by omega)).mp q)), c_comesOf hS'.1 hd hn hm' hv hlt, Option.bind_some]
      have hst : pth m d 6 i = pth m d d i := (trm_up (hA.at i) (t := 6) (by omega)).2
      by_cases w2 : pth m d 6 i = some d
      · have : b1 (decide (pth m d 6 i = some d)) = 1 := by simp [w2, b1]
        rw [if_neg (by rw [this]; decide)]
        refine skip (fun c hcb ⟨⟨_, ha⟩, _⟩ => ?_)
        have ha' : AC (upM m d (some i)) n ∨ True := Or.inr trivial
        have hmd : mkC n c d = some i := by rw [hcb d (by omega), upM_d]
        have hpc : pth (mkC n c) d 6 i = some d := by
          rw [pth_cg (m' := m) (fun k hk2 => by rw [hcb k (by omega), ← upM_lt hk2])]
          exact w2
        exact AC.no hd hmd hpc ha
      · have : b1 (decide (pth m d 6 i = some d)) = 0 := by simp [w2, b1]
        rw [if_pos this, l5, Option.bind_some, grd_y l6, l7, grd_y ((nvp (by omega)).mpr (by omega)), nclampI (by omega), TT_bv, nsucc d, TT_bind]
        have f1 : Fr (fun a _ => a = 37) M' (wI M' 37 d (nI i)) := Fr.rf.wI rfl
        have e37 : ∀ k, k ≠ d → mI (wI M' 37 d (nI i)) 37 k = mI M' 37 k := fun k hk2 => mI_wI_ne hk2
        have e37d : mI (wI M' 37 d (nI i)) 37 d = nI i := mI_wIs
        generalize wI M' 37 d (nI i) = M1 at f1 e37 e37d
        have f1' : Fr Spd M' M1 := f1.up (fun a k w => Or.inl w)
        have hA' : AC (upM m d (some i)) (d + 1) := by
          refine (hA.cg (fun k hk2 => upM_lt hk2)).snoc (fun j hj => ?_)
          rw [upM_d] at hj
          cases hj
          rw [pth_cg (m' := m) (fun k hk2 => (upM_lt hk2).symm), ← hst]
          exact w2
        have hR' : RTD (upM m d (some i)) (d + 1) rt := by
          rcases hR with ⟨q1, q2⟩ | ⟨r, q1, q2, q3, q4⟩
          · refine Or.inl ⟨q1, fun k hk2 => ?_⟩
            by_cases z : k = d
            · rw [z, upM_d]
              exact fun u => by cases u
            · rw [← upM_lt (show k < d by omega)]
              exact q2 k (by omega)
          · refine Or.inr ⟨r, by omega, q2, by rw [← upM_lt q1]; exact q3, fun k hk2 h => ?_⟩
            by_cases z : k = d
            · rw [z, upM_d] at h
              cases h
            · rw [← upM_lt (show k < d by omega)] at h
              exact q4 k (by omega) h
        have hcall := ih M1 (upM m d (some i)) rt (hS'.fr f1') (fun k hk2 => by
          by_cases z : k = d
          · rw [z, e37d, upM_d]
            rfl
          · rw [e37 k z, ← upM_lt (show k < d by omega)]
            exact hm' k (by omega)) hvu hA' hR' (by rw [hcs]; omega) (by rw [henc]; exact hr.fr f1)
        rw [hcs, henc] at hcall
        refine hcall.mono ?_
        rintro M2 ⟨f2, k2, r2⟩
        rw [TT_bv, TT_some]
        refine ⟨hlt, M2, by rw [nsucc], (hf.tr f1').tr f2, fun k hk2 => by rw [k2 k (by omega), e37 k (by omega)]; exact hk k hk2, ?_⟩
        rw [Nat.add_assoc] at r2
        exact r2
