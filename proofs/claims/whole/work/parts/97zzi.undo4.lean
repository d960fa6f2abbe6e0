/-! STAND undone -/
theorem rank_set (a : List Nat) (t u : Nat) (b : List Nat) : rank (a ++ t :: b) + u * 6 ^ b.length = rank (a ++ u :: b) + t * 6 ^ b.length := by
  rw [rank_ins, rank_ins]
  omega
theorem stI {A C u z U : Nat} (h : A + z * U = C + u * U) : nI C + (nI u - nI z) * nI U = nI A := by
  simp only [nI_ii, ii_sub, ii_mul, ii_add]
  congr 1
  have h' : ((A + z * U : Nat) : Int) = ((C + u * U : Nat) : Int) := by rw [h]
  simp only [Int.natCast_add, Int.natCast_mul] at h'
  rw [Int.sub_mul]
  omega
def STB (K : Nat → Int32) (x : Int32) : Prop := ∃ st, x = nI st ∧ st < 64 ∧ ∀ u, u < 6 → (st.testBit u = true ↔ ∃ t, t < 6 ∧ sdK K t = some u)
theorem oI_n {o : Option Nat} (h : ∀ v, o = some v → v < 2147483648) {u : Nat} (hu : u < 2147483648) : oI o = nI u ↔ o = some u := by
  cases o with
  | none => exact ⟨fun q => absurd q.symm (neg1_nI hu), fun q => by cases q⟩
  | some v =>
    show nI v = nI u ↔ _
    rw [neqI (h v rfl) hu]
    constructor
    · rintro rfl
      rfl
    · intro q
      cases q
      rfl
noncomputable def ut1 (a0 : Nat) (p1 x12 un pl p2 p3 : Int32) : Mem × Int32 → Option ((Mem × Int32) ⊕ (Mem)) := (fun s13 => if 6 ≤ s13.2 then (some (.inr s13.1)) else (grd (okO s13.1 2 a0) (if ((sr (mI s13.1 a0 10) x12) &&& 1) = 1 then (bv (p1 + ((s13.2 - x12) * un) : Int32) (fun x22 => Option.bind (mR s13.1 a0 0) (fun r23 => grd (okO s13.1 10 r23) (Option.bind (mR s13.1 r23 2) (fun r25 => grd (okO s13.1 14 r25) (grd (vp_in s13.2 (mL s13.1 r25)) (bv (fun (s29 : Mem) => bv (s13.2 + 1 : Int32) (fun x33 => some (.inl (s29, x33)))) (fun j28 => if (mI s13.1 r25 s13.2.toNatClampNeg) = x12 then (if x22 < 0 then (j28 s13.1) else (if 9331 ≤ x22 then (j28 s13.1) else (Option.bind (mR s13.1 a0 2) (fun r34 => grd (okO s13.1 16 r34) (grd (vp_in x22 (mL s13.1 r34)) (if (mI s13.1 r34 x22.toNatClampNeg) = (-1) then (Option.bind (mR s13.1 a0 1) (fun r37 => grd (okO s13.1 8 r37) (Option.bind (f_X8_weightOf s13.1 r37 4 s13.2 pl p2 (((sr p3 (3 * s13.2)) &&& 7) + 1)) (fun q39 => if q39.2 = (-1) then (j28 q39.1) else (Option.bind (f_X2_note q39.1 a0 x22) (fun q44 => j28 q44)))))) else (j28 s13.1))))))) else (j28 s13.1))))))))) else (some (.inr s13.1)))))
noncomputable def ut0 (a0 : Nat) (p1 p2 p3 : Int32) : Mem × Int32 × Int32 × Int32 → Option ((Mem × Int32 × Int32 × Int32) ⊕ (Mem)) := (fun s4 => if s4.2.2.2 < 0 then (some (.inr s4.1)) else (bv (ir s4.2.1 6 : Int32) (fun x12 => Option.bind (loopO (ut1 a0 p1 x12 s4.2.2.1 s4.2.2.2 p2 p3) (s4.1, 0)) (fun (x19 : Mem) => bv (s4.2.1 / 6 : Int32) (fun x49 => bv (s4.2.2.1 * 6 : Int32) (fun x50 => bv (s4.2.2.2 + (-1) : Int32) (fun x51 => some (.inl (x19, x49, x50, x51)))))))))
theorem undoStand_eq {M : Mem} {a0 : Nat} {p1 p2 p3 : Int32} : f_X2_undoStand M a0 p1 p2 p3 = grd (vp_in p2 7) (Option.bind (loopO (ut0 a0 p1 p2 p3) (M, p1 - (stV p2.toNatClampNeg), 1, p2 - 1)) (fun x9 => some x9)) := rfl
theorem okLV {M : Mem} (h : MID M) : okO M 10 1 ∧ mR M 1 2 = some 4 ∧ okO M 14 4 ∧ mL M 4 = 6 := by
  have hL := h.1.1
  unfold LayC at hL
  simp only [hL, and_self]
def WPT (K : Nat → Int32) (y : Nat) (l a : List Nat) (t u : Nat) : Prop := sdK K t = some u ∧ WOK K y 4 t a.length l.length (l.count t + 1)
theorem count_set {a b : List Nat} {t u : Nat} (h : t ≠ u) : (a ++ u :: b).count t ≤ a.length + b.length := by
  rw [List.count_append, List.count_cons_of_ne (by omega)]
  have h1 : a.count t ≤ a.length := List.count_le_length
  have h2 : b.count t ≤ b.length := List.count_le_length
  omega
theorem c_ut1 {K : Nat → Int32} {B y goal d kk to e : Nat} {M0 M : Mem} (h : UST K B y goal d kk to e M0 M) (hB : B < 16777216) (hk : KTH K) (hS : STB K (mI M0 d 10)) {l a b : List Nat} {u : Nat} (hl : DL l) (e0 : l = a ++ u :: b) (ht : to = rank l) {p3 : Int32} (hp3 : TSQ M p3 l) : TT (loopO (ut1 d (nI (rank l)) (nI u) (nI (6 ^ b.length)) (nI a.length) (nI l.length) p3) (M, 0)) (fun M1 => USG K B y goal d kk to e M0 M M1 ∧ ∀ t, t < 6 → WPT K y l a t u → mI M1 (d + 1) (rank (a ++ t :: b)) ≠ -1) := by
  have hl1 := hl.1
  have el : l.length = a.length + b.length + 1 := by rw [e0]; simp <;> omega
  have hu : u < 6 := hl.2 u (by rw [e0]; simp)
  obtain ⟨st, hs1, hs2, hs3⟩ := hS
  refine TT_for 6 (fun k s => ∃ M', s = (M', nI k) ∧ USG K B y goal d kk to e M0 M M' ∧ ∀ t, t < k → WPT K y l a t u → mI M' (d + 1) (rank (a ++ t :: b)) ≠ -1) ?_ (Nat.zero_le _) ⟨M, rfl, USG.rf h, fun t ht => by omega⟩
  rintro k s hk6 ⟨M', rfl, hg, hf⟩
  have c6 := c6k hk6
  obtain ⟨u1, u2, u3, u4, u5, u6, u7⟩ := id hg.1
  obtain ⟨t1, t2, t3, t4, t5, t6, t7, t8, t9, t10⟩ := id u5
  have e10 : mI M' d 10 = nI st := by
    rw [u4.i (by unfold Sdi Ssc; omega)]
    exact hs1
  unfold ut1
  simp only
  by_cases w : k = 6
  · rw [if_pos (c6.mpr w), TT_some]
    exact ⟨hg, fun t ht' => hf t (by omega)⟩
  · have hlt : k < 6 := by omega
    rw [if_neg (fun q => w (c6.mp q)), grd_y t2, e10]
    by_cases wb : st.testBit u = true
    · rw [if_pos ((bit_n (by omega) (by omega)).mpr wb), TT_bv, t3, Option.bind_some]
      obtain ⟨o1, o2, o3, o4⟩ := okLV u1
      have hsd := (u1.gs).2.1 k hlt
      rw [u3] at hsd
      rw [grd_y o1, o2, Option.bind_some, grd_y o3, o4, grd_y ((nvp (by omega)).mpr hlt), nclampI (by omega), hsd.1]
      have hd' : DL (a ++ k :: b) := DL_set (by rw [← e0]; exact hl) hlt
      have hrl := rank_lt hd'
      have hr : nI (rank l) + (nI k - nI u) * nI (6 ^ b.length) = nI (rank (a ++ k :: b)) := stI (by rw [e0]; exact rank_set a k u b)
      rw [hr]
      have fin : ∀ M1, USG K B y goal d kk to e M0 M M1 → (WPT K y l a k u → mI M1 (d + 1) (rank (a ++ k :: b)) ≠ -1) → GRW d M' M1 → TT (some (Sum.inl (M1, nI k + 1)) : Option ((Mem × Int32) ⊕ Mem)) (fun r => r.elim (fun s' => k < 6 ∧ ∃ M', s' = (M', nI (k + 1)) ∧ USG K B y goal d kk to e M0 M M' ∧ ∀ t, t < k + 1 → WPT K y l a t u → mI M' (d + 1) (rank (a ++ t :: b)) ≠ -1) (fun M1 => USG K B y goal d kk to e M0 M M1 ∧ ∀ t, t < 6 → WPT K y l a t u → mI M1 (d + 1) (rank (a ++ t :: b)) ≠ -1)) := fun M1 q1 q2 q3 => by
        rw [TT_some]
        refine ⟨hlt, M1, by rw [nsucc], q1, fun t ht' hw => ?_⟩
        by_cases q : t = k
        · subst q
          exact q2 hw
        · exact q3 _ (rank_lt (DL_set (by rw [← e0]; exact hl) (by omega))) (hf t (by omega) hw)
      by_cases wk : sdK K k = some u
      · have hne := ((sdK_v hk hlt).2 u wk).2
        have hc : l.count k ≤ a.length + b.length := by
          rw [e0]
          exact count_set (fun q => hne q.symm)
        rw [TT_bv, if_pos ((oI_n (fun v hv => by have := hsd.2 v hv; omega) (by omega)).mpr wk), if_neg (nrg hrl).1, if_neg (nrg hrl).2, t5, Option.bind_some, grd_y t7, t8, grd_y ((nvp (by omega)).mpr hrl), nclampI (by omega), t4, Option.bind_some, grd_y (okLC u1)]
        refine u_try (ρ := (Mem × Int32) ⊕ Mem) (j := fun M1 => some (Sum.inl (M1, nI k + 1))) hg.1 hB hrl (s := 4) (t := k) (p := a.length) (n := l.length) (hh := l.count k + 1) (by omega) hlt (by omega) (by omega) (by omega) ?_ ?_ ?_
        · rw [hg.2.2]
          rcases hp3.h hl hlt with q | q
          · exact Or.inl q
          · exact Or.inr (by rw [q, nsucc])
        · intro hw
          show adjK K y (rank (a ++ k :: b)) to
          rw [ht]
          exact (adjK_P hk hl hd').mpr (Or.inr (Or.inr (Or.inr ⟨a, k, u, b, e0, rfl, hlt, wk, hw⟩)))
        · intro M1 c1 c2 c3 c4
          exact fin M1 ⟨c1, hg.2.1.tr c2, c3.trans hg.2.2⟩ (fun q => c4 q.2) c2
      · rw [TT_bv, if_neg (fun q => wk ((oI_n (fun v hv => by have := hsd.2 v hv; omega) (by omega)).mp q))]
        exact fin M' hg (fun q => absurd q.1 wk) GRW.rf
    · rw [if_neg (fun q => wb ((bit_n (by omega) (by omega)).mp q)), TT_some]
      exact ⟨hg, fun t ht' hw => absurd ((hs3 u hu).mpr ⟨t, ht', hw.1⟩) wb⟩
theorem c_undoStand {K : Nat → Int32} {B y goal d kk to e : Nat} {M0 M : Mem} (h : UST K B y goal d kk to e M0 M) (hB : B < 16777216) (hk : KTH K) (hS : STB K (mI M0 d 10)) {l : List Nat} (hl : DL l) (ht : to = rank l) {p3 : Int32} (hp3 : TSQ M p3 l) : TT (f_X2_undoStand M d (nI (rank l)) (nI l.length) p3) (fun M1 => USG K B y goal d kk to e M0 M M1 ∧ ∀ l', DL l' → PT K y l l' → mI M1 (d + 1) (rank l') ≠ -1) := by
  have hrv := rank_val l
  have hl1 := hl.1
  rw [undoStand_eq, grd_y ((nvp (by omega)).mpr (by omega)), stV_n (by omega), nsub (by omega), show rank l - stN l.length = val l from by omega, TT_bind]
  refine (TT_for l.length (fun k s => USG K B y goal d kk to e M0 M s.1 ∧ (∀ a t u b, l = a ++ u :: b → b.length < k → t < 6 → WPT K y l a t u → mI s.1 (d + 1) (rank (a ++ t :: b)) ≠ -1) ∧ ∃ a b, l = a ++ b ∧ b.length = k ∧ s.2 = (nI (val a), nI (6 ^ k), nI a.length - 1)) (Q := fun M1 => USG K B y goal d kk to e M0 M M1 ∧ ∀ l', DL l' → PT K y l l' → mI M1 (d + 1) (rank l') ≠ -1) ?_ (Nat.zero_le _) ?_).mono (fun x hx => TT_some.mpr hx)
  · rintro k ⟨M', hi, un, pl⟩ hkn ⟨hg, hf, a, b, e1, e2, e3⟩
    simp only at hg hf e3
    cases e3
    have el : l.length = a.length + b.length := by rw [e1]; simp
    rcases snoc_of a with rfl | ⟨c, x, rfl⟩
    · unfold ut0
      simp only
      rw [if_pos (show nI ([] : List Nat).length - 1 < 0 from nm1), TT_some]
      refine ⟨hg, fun l' _ ⟨a, t, u, b', q1, q2, q3, q4, hw⟩ => ?_⟩
      rw [q2]
      refine hf a t u b' q1 ?_ q3 ⟨q4, hw⟩
      have := congrArg List.length q1
      simp at this el
      omega
    · have e1' : l = c ++ x :: b := by rw [e1]; simp
      have hx : x < 6 := hl.2 x (by rw [e1']; simp)
      have hda : DL (c ++ [x]) := (DL_sub (b := b) (by rw [← e1]; exact hl)).1
      have hv := hda.val
      obtain ⟨v1, v2⟩ := val_sn (a := c) hx (by omega)
      rw [List.length_append, List.length_singleton] at el
      unfold ut0
      simp only
      rw [List.length_append, List.length_singleton, nprd, ← e2, if_neg (ltz (by omega)), TT_bv, v1, TT_bind]
      refine (c_ut1 hg.1 hB hk hS hl e1' ht (p3 := p3) (by unfold TSQ; rw [hg.2.2]; exact hp3)).mono ?_
      rintro M1 ⟨g1, g2⟩
      rw [TT_bv, TT_bv, TT_bv, TT_some]
      refine ⟨by omega, hg.tr g1, fun a' t u' b' q1 q2 q3 q4 => ?_, c, x :: b, e1', rfl, ?_⟩
      · by_cases q : b'.length = b.length
        · obtain ⟨r1, r2⟩ := List.append_inj' (e1'.symm.trans q1) (by simp [q])
          cases r2
          subst r1
          exact g2 t q3 q4
        · exact g1.2.1 _ (rank_lt (DL_set (by rw [← q1]; exact hl) q3)) (hf a' t u' b' q1 (by omega) q3 q4)
      · rw [v2, show nI (6 ^ b.length) * 6 = nI (6 ^ b.length * 6) from nmul _ 6, Nat.pow_succ, ladd]
  · exact ⟨USG.rf h, fun a t u b _ q => by omega, l, [], by simp, rfl, rfl⟩
