/-! SWAP undone -/
theorem rank_swap (c : List Nat) (u z : Nat) (b : List Nat) : rank (c ++ u :: z :: b) + z * 6 ^ b.length * 5 = rank (c ++ z :: u :: b) + u * 6 ^ b.length * 5 := by
  rw [rank_val, rank_val, val_app, val_app, val_cons, val_cons, val_cons, val_cons]
  simp only [List.length_append, List.length_cons]
  rw [Nat.pow_succ (n := 6) (m := b.length)]
  have e1 : u * (6 ^ b.length * 6) = u * 6 ^ b.length * 6 := by ac_rfl
  have e2 : z * (6 ^ b.length * 6) = z * 6 ^ b.length * 6 := by ac_rfl
  rw [e1, e2]
  omega
theorem swI {A C u z U : Nat} (h : A + z * U * 5 = C + u * U * 5) : nI C + ((nI u - nI z) * nI U) * 5 = nI A := by
  rw [show (5 : Int32) = nI 5 from rfl]
  simp only [nI_ii, ii_sub, ii_mul, ii_add]
  congr 1
  have h' : ((A + z * U * 5 : Nat) : Int) = ((C + u * U * 5 : Nat) : Int) := by rw [h]
  simp only [Int.natCast_add, Int.natCast_mul] at h'
  rw [Int.sub_mul, Int.sub_mul]
  omega
noncomputable def us0 (a0 : Nat) (p1 p2 p3 : Int32) : Mem × Int32 × Int32 × Int32 × Int32 → Option ((Mem × Int32 × Int32 × Int32 × Int32) ⊕ (Mem)) := (fun s5 => if s5.2.2.2.2 < 0 then (some (.inr s5.1)) else (bv (s5.2.1 / 6 : Int32) (fun x13 => bv (ir x13 6 : Int32) (fun x14 => bv (p1 + (((s5.2.2.1 - x14) * s5.2.2.2.1) * 5) : Int32) (fun x15 => bv (fun (s17 : Mem) => bv (s5.2.2.2.1 * 6 : Int32) (fun x20 => bv (s5.2.2.2.2 + (-1) : Int32) (fun x21 => some (.inl (s17, x13, x14, x20, x21))))) (fun j16 => if x15 < 0 then (j16 s5.1) else (if 9331 ≤ x15 then (j16 s5.1) else (grd (okO s5.1 2 a0) (Option.bind (mR s5.1 a0 2) (fun r23 => grd (okO s5.1 16 r23) (grd (vp_in x15 (mL s5.1 r23)) (if (mI s5.1 r23 x15.toNatClampNeg) = (-1) then (Option.bind (mR s5.1 a0 1) (fun r26 => grd (okO s5.1 8 r26) (Option.bind (f_X8_weightOf s5.1 r26 2 s5.2.2.1 s5.2.2.2.2 p2 ((sr p3 (3 * s5.2.2.1)) &&& 7)) (fun q28 => if q28.2 = (-1) then (j16 q28.1) else (Option.bind (f_X2_note q28.1 a0 x15) (fun q33 => j16 q33)))))) else (j16 s5.1)))))))))))))
theorem undoSwap_eq {M : Mem} {a0 : Nat} {p1 p2 p3 : Int32} : f_X2_undoSwap M a0 p1 p2 p3 = grd (vp_in p2 7) (Option.bind (loopO (us0 a0 p1 p2 p3) (M, p1 - (stV p2.toNatClampNeg), ir (p1 - (stV p2.toNatClampNeg)) 6, 1, p2 - 2)) (fun x9 => some x9)) := rfl
theorem UST.head {K : Nat → Int32} {B y goal d kk to e : Nat} {M0 M : Mem} (h : UST K B y goal d kk to e M0 M) (ht : to < 9331) : mI M (d + 1) to ≠ -1 := by
  obtain ⟨u1, u2, u3, u4, u5, u6, Q, D, ⟨t1, t2, t3, t4⟩, b1', b2, b3⟩ := h
  rw [t2 to ht, b3]
  have := b1'.dlt t4 b3
  exact neg1_nI (by omega)
theorem us_step {K : Nat → Int32} {B y goal d kk to e : Nat} {M0 M : Mem} (h : UST K B y goal d kk to e M0 M) (hB : B < 16777216) (hk : KTH K) {l c b : List Nat} {z u : Nat} (hl : DL l) (e0 : l = c ++ z :: u :: b) (ht : to = rank l) {p3 : Int32} (hp3 : TSQ M p3 l) : TT (us0 d (nI (rank l)) (nI l.length) p3 (M, nI (val ((c ++ [z]) ++ [u])), nI u, nI (6 ^ b.length), nI c.length)) (fun r => ∃ M1, r = Sum.inl (M1, nI (val (c ++ [z])), nI z, nI (6 ^ (b.length + 1)), nI c.length - 1) ∧ USG K B y goal d kk to e M0 M M1 ∧ (u ≠ z → WOK K y 2 u c.length l.length (l.count u) → mI M1 (d + 1) (rank (c ++ u :: z :: b)) ≠ -1)) := by
  have hl1 := hl.1
  have hl2 := hl.2
  have hu : u < 6 := hl2 u (by rw [e0]; simp)
  have hz : z < 6 := hl2 z (by rw [e0]; simp)
  have el : l.length = c.length + b.length + 2 := by rw [e0]; simp <;> omega
  have hda : DL ((c ++ [z]) ++ [u]) := (DL_sub (b := b) (by rw [e0] at hl; simpa using hl)).1
  have hda2 : DL (c ++ [z]) := (DL_sub hda).1
  have hv := hda.val
  have hv2 := hda2.val
  obtain ⟨v1, v2⟩ := val_sn (a := c ++ [z]) hu (by omega)
  obtain ⟨w1, w2⟩ := val_sn (a := c) hz (by omega)
  have hdd : DL (c ++ u :: z :: b) := by
    refine ⟨by simp; omega, fun q hq => hl2 q ?_⟩
    rw [e0]
    simp at hq ⊢
    rcases hq with q | q | q | q <;> simp [q]
  have hr : nI (rank l) + ((nI u - nI z) * nI (6 ^ b.length)) * 5 = nI (rank (c ++ u :: z :: b)) := swI (by rw [e0]; exact rank_swap c u z b)
  have hrl := rank_lt hdd
  have hc : l.count u ≤ l.length := List.count_le_length
  obtain ⟨u1, u2, u3, u4, u5, u6, u7⟩ := id h
  obtain ⟨t1, t2, t3, t4, t5, t6, t7, t8, t9, t10⟩ := id u5
  have fin : ∀ M1, USG K B y goal d kk to e M0 M M1 → (u ≠ z → WOK K y 2 u c.length l.length (l.count u) → mI M1 (d + 1) (rank (c ++ u :: z :: b)) ≠ -1) → TT (some (Sum.inl (M1, nI (val (c ++ [z])), nI z, nI (6 ^ b.length) * 6, nI c.length + (-1))) : Option ((Mem × Int32 × Int32 × Int32 × Int32) ⊕ Mem)) (fun r => ∃ M1, r = Sum.inl (M1, nI (val (c ++ [z])), nI z, nI (6 ^ (b.length + 1)), nI c.length - 1) ∧ USG K B y goal d kk to e M0 M M1 ∧ (u ≠ z → WOK K y 2 u c.length l.length (l.count u) → mI M1 (d + 1) (rank (c ++ u :: z :: b)) ≠ -1)) := fun M1 q1 q2 => by
    rw [TT_some]
    refine ⟨M1, ?_, q1, q2⟩
    rw [show nI (6 ^ b.length) * 6 = nI (6 ^ b.length * 6) from nmul _ 6, Nat.pow_succ, ladd]
  unfold us0
  simp only
  rw [if_neg (ltz (by omega)), TT_bv, v2, TT_bv, w1, hr, TT_bv, TT_bv, if_neg (nrg hrl).1, if_neg (nrg hrl).2, grd_y t2, t5, Option.bind_some, grd_y t7, t8, grd_y ((nvp (by omega)).mpr hrl), nclampI (by omega), t4, Option.bind_some, grd_y (okLC u1)]
  by_cases w : u = z
  · have hto : rank (c ++ u :: z :: b) = to := by rw [ht, e0, w]
    have hne := h.head (by rw [← hto]; exact hrl)
    rw [if_neg (by rw [hto]; exact hne)]
    exact fin M (USG.rf h) (fun q => absurd w q)
  · refine u_try (ρ := (Mem × Int32 × Int32 × Int32 × Int32) ⊕ Mem) (j := fun M1 => some (Sum.inl (M1, nI (val (c ++ [z])), nI z, nI (6 ^ b.length) * 6, nI c.length + (-1)))) h hB hrl (s := 2) (t := u) (p := c.length) (n := l.length) (hh := l.count u) (by omega) hu (by omega) (by omega) (by omega) (hp3.h hl hu) ?_ ?_
    · intro hw
      show adjK K y (rank (c ++ u :: z :: b)) to
      rw [ht]
      exact (adjK_P hk hl hdd).mpr (Or.inr (Or.inr (Or.inl ⟨c, z, u, b, e0, rfl, hw, w⟩)))
    · intro M1 c1 c2 c3 c4
      exact fin M1 ⟨c1, c2, c3⟩ (fun _ => c4)
theorem c_undoSwap {K : Nat → Int32} {B y goal d kk to e : Nat} {M0 M : Mem} (h : UST K B y goal d kk to e M0 M) (hB : B < 16777216) (hk : KTH K) {l : List Nat} (hl : DL l) (ht : to = rank l) {p3 : Int32} (hp3 : TSQ M p3 l) : TT (f_X2_undoSwap M d (nI (rank l)) (nI l.length) p3) (fun M1 => USG K B y goal d kk to e M0 M M1 ∧ ∀ l', DL l' → PS K y l l' → mI M1 (d + 1) (rank l') ≠ -1) := by
  have hrv := rank_val l
  have hl1 := hl.1
  rw [undoSwap_eq, grd_y ((nvp (by omega)).mpr (by omega)), stV_n (by omega), nsub (by omega), show rank l - stN l.length = val l from by omega, TT_bind]
  rcases snoc_of l with rfl | ⟨a0, u0, e0⟩
  · refine (TT_for 0 (fun k s => s.1 = M ∧ s.2.2.2.2 < 0) (Q := fun M1 => M1 = M) ?_ (Nat.zero_le _) ⟨rfl, by show nI 0 - 2 < 0; decide⟩).mono ?_
    · rintro k ⟨M', hi, ri, un, pl⟩ hkn ⟨q1, q2⟩
      simp only at q1 q2
      unfold us0
      simp only
      rw [if_pos q2, TT_some]
      exact q1
    · rintro M1 rfl
      rw [TT_some]
      refine ⟨USG.rf h, fun l' _ ⟨a, u, x, b, q1, _⟩ => ?_⟩
      have := congrArg List.length q1
      simp at this
  · have hv := hl.val
    have hu0 : u0 < 6 := hl.2 u0 (by rw [e0]; simp)
    have v1 : ir (nI (val l)) 6 = nI u0 := by
      rw [e0] at hv ⊢
      exact (val_sn (a := a0) hu0 (by omega)).1
    rw [v1]
    refine (TT_for (l.length - 1) (fun k s => USG K B y goal d kk to e M0 M s.1 ∧ (∀ a z u b, l = a ++ z :: u :: b → b.length < k → u ≠ z → WOK K y 2 u a.length l.length (l.count u) → mI s.1 (d + 1) (rank (a ++ u :: z :: b)) ≠ -1) ∧ ∃ a u b, l = a ++ u :: b ∧ b.length = k ∧ s.2 = (nI (val (a ++ [u])), nI u, nI (6 ^ k), nI a.length - 1)) (Q := fun M1 => USG K B y goal d kk to e M0 M M1 ∧ ∀ l', DL l' → PS K y l l' → mI M1 (d + 1) (rank l') ≠ -1) ?_ (Nat.zero_le _) ?_).mono (fun x hx => TT_some.mpr hx)
    · rintro k ⟨M', hi, ri, un, pl⟩ hkn ⟨hg, hf, a, u, b, e1, e2, e3⟩
      simp only at hg hf e3
      cases e3
      have el : l.length = a.length + b.length + 1 := by rw [e1]; simp <;> omega
      rcases snoc_of a with rfl | ⟨c, z, rfl⟩
      · unfold us0
        simp only
        rw [if_pos (show nI ([] : List Nat).length - 1 < 0 from nm1), TT_some]
        refine ⟨hg, fun l' _ ⟨a, z, x, b', q1, q2, hw, hne⟩ => ?_⟩
        rw [q2]
        refine hf a z x b' q1 ?_ hne hw
        have := congrArg List.length q1
        simp at this el
        omega
      · have e1' : l = c ++ z :: u :: b := by rw [e1]; simp
        rw [List.length_append, List.length_singleton, nprd, ← e2]
        refine (us_step hg.1 hB hk hl e1' ht (p3 := p3) (by unfold TSQ; rw [hg.2.2]; exact hp3)).mono ?_
        rintro r ⟨M1, rfl, g1, g2⟩
        rw [List.length_append, List.length_singleton] at el
        refine ⟨by omega, hg.tr g1, fun a' z' u' b' q1 q2 q3 q4 => ?_, c, z, u :: b, e1', rfl, rfl⟩
        by_cases q : b'.length = b.length
        · obtain ⟨r1, r2⟩ := List.append_inj' (e1'.symm.trans q1) (by simp [q])
          cases r2
          subst r1
          exact g2 q3 q4
        · refine g1.2.1 _ (rank_lt ?_) (hf a' z' u' b' q1 (by omega) q3 q4)
          refine ⟨by have := congrArg List.length q1; simp at this ⊢; omega, fun q hq => hl.2 q ?_⟩
          rw [q1]
          simp at hq ⊢
          rcases hq with q | q | q | q <;> simp [q]
    · refine ⟨USG.rf h, fun a z u b _ q => by omega, a0, u0, [], e0, rfl, ?_⟩
      have e2 : nI l.length - 2 = nI a0.length - 1 := by
        rw [e0, List.length_append, List.length_singleton, show (2 : Int32) = 1 + 1 from rfl, ← nprd a0.length]
        simp only [Int32.sub_eq_add_neg, Int32.neg_add, Int32.add_assoc]
      rw [e2, ← e0]
      rfl
