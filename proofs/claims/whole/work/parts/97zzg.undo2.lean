/-! IN and DOUBLE undone -/
def hdI (b : List Nat) : Int32 := match b with
  | [] => -1
  | x :: _ => nI x
theorem hdI_eq {b : List Nat} (hb : ∀ z, z ∈ b → z < 6) {x : Nat} (hx : x < 6) : hdI b = nI x ↔ ∃ b', b = x :: b' := by
  cases b with
  | nil =>
    constructor
    · intro q
      exact absurd q.symm (neg1_nI (by omega))
    · rintro ⟨b', q⟩
      cases q
  | cons z b =>
    have hz : z < 6 := hb z (by simp)
    show nI z = nI x ↔ _
    rw [neqI (by omega) (by omega)]
    constructor
    · rintro rfl
      exact ⟨b, rfl⟩
    · rintro ⟨b', q⟩
      cases q
      rfl
theorem nprd (m : Nat) : nI (m + 1) - 1 = nI m := by
  rw [show (1 : Int32) = nI 1 from rfl, nsub (by omega), Nat.add_sub_cancel]
theorem nm1 : nI 0 - 1 < 0 := by decide
theorem ladd (x : Int32) : x + (-1) = x - 1 := (Int32.sub_eq_add_neg x 1).symm
theorem u_note {K : Nat → Int32} {B y goal d kk to e : Nat} {M0 M M1 : Mem} (hg : USG K B y goal d kk to e M0 M M1) {r : Nat} (hr : r < 9331) (hm : mI M1 (d + 1) r = -1) (ha : rdjK K y to r) {ρ : Type} {j : Mem → Option ρ} {P : ρ → Prop} (hj : ∀ M2, USG K B y goal d kk to e M0 M M2 → mI M2 (d + 1) r ≠ -1 → TT (j M2) P) : TT (Option.bind (f_X2_note M1 d (nI r)) (fun q => j q)) P := by
  rw [TT_bind]
  refine (hg.1.note hr hm ha).mono ?_
  rintro M2 ⟨c1, c2, c3⟩
  refine hj M2 ⟨c1, hg.2.1.tr c2, ?_⟩ c3
  rw [← hg.2.2, c1.2.2.2.1.2.2.2.2.1, hg.1.2.2.2.1.2.2.2.2.1]
theorem u_try2 {K : Nat → Int32} {B y goal d kk to e : Nat} {M0 M : Mem} (h : UST K B y goal d kk to e M0 M) (hB : B < 16777216) {r : Nat} (hr : r < 9331) {t p n hh : Nat} (ht : t < 6) (hp : p < 6) (hn : n ≤ 5) (h5 : hh ≤ 5) {hv : Int32} (hv' : mR M 21 3 = none ∨ hv = nI hh) {c : Prop} [Decidable c] (ha : (WOK K y 1 t p n hh ∨ (c ∧ WOK K y 3 t p n hh)) → rdjK K y to r) {ρ : Type} {j : Mem → Option ρ} {P : ρ → Prop} (hj : ∀ M1, USG K B y goal d kk to e M0 M M1 → ((WOK K y 1 t p n hh ∨ (c ∧ WOK K y 3 t p n hh)) → mI M1 (d + 1) r ≠ -1) → TT (j M1) P) : TT (if mI M (d + 1) r = -1 then (Option.bind (mR M d 1) (fun r29 => grd (okO M 8 r29) (Option.bind (f_X8_weightOf M r29 (nI 1) (nI t) (nI p) (nI n) hv) (fun q31 => if q31.2 = -1 then (if c then (Option.bind (mR q31.1 d 1) (fun r46 => grd (okO q31.1 8 r46) (Option.bind (f_X8_weightOf q31.1 r46 (nI 3) (nI t) (nI p) (nI n) hv) (fun q48 => if q48.2 = -1 then (j q48.1) else (Option.bind (f_X2_note q48.1 d (nI r)) (fun q41 => j q41)))))) else (j q31.1)) else (Option.bind (f_X2_note q31.1 d (nI r)) (fun q41 => j q41)))))) else (j M)) P := by
  by_cases w : mI M (d + 1) r = -1
  · have t4 := h.2.2.2.2.1.2.2.2.1
    rw [if_pos w, t4, Option.bind_some, grd_y (okLC h.1), TT_bind]
    refine (m_weigh h.1 h.2.1 hB (by omega) ht hp hn h5 hv').mono ?_
    rintro ⟨M1, x⟩ ⟨a1, a2, a3, a4, a5⟩
    simp only at a1 a2 a3 a4 a5 ⊢
    obtain ⟨b1', b2, b3⟩ := h.sc a1 a2 a3 a4
    have hk : mI M 49 = K := h.2.2.1
    rw [hk] at a5
    have hg1 : USG K B y goal d kk to e M0 M M1 := ⟨b1', b2, a4.2.2.2.2.1⟩
    by_cases w2 : x = -1
    · rw [if_pos w2]
      by_cases w3 : c
      · have t4' := b1'.2.2.2.2.1.2.2.2.1
        rw [if_pos w3, t4', Option.bind_some, grd_y (okLC a1), TT_bind]
        refine (m_weigh a1 a2 hB (by omega) ht hp hn h5 (by rw [hg1.2.2]; exact hv')).mono ?_
        rintro ⟨M2, x2⟩ ⟨d1, d2, d3, d4, d5⟩
        simp only at d1 d2 d3 d4 d5 ⊢
        obtain ⟨e1, e2, e3⟩ := b1'.sc d1 d2 d3 d4
        rw [a3, hk] at d5
        have hg2 : USG K B y goal d kk to e M0 M M2 := hg1.tr ⟨e1, e2, d4.2.2.2.2.1⟩
        by_cases w4 : x2 = -1
        · rw [if_pos w4]
          refine hj M2 hg2 ?_
          rintro (q | q)
          · exact absurd q (a5.mp w2)
          · exact absurd q.2 (d5.mp w4)
        · rw [if_neg w4]
          have hw : WOK K y 3 t p n hh := Classical.byContradiction (fun q => w4 (d5.mpr q))
          exact u_note hg2 hr (by rw [e3, b3]; exact w) (ha (Or.inr ⟨w3, hw⟩)) (fun M3 q1 q2 => hj M3 q1 (fun _ => q2))
      · rw [if_neg w3]
        refine hj M1 hg1 ?_
        rintro (q | q)
        · exact absurd q (a5.mp w2)
        · exact absurd q.1 w3
    · rw [if_neg w2]
      have hw : WOK K y 1 t p n hh := Classical.byContradiction (fun q => w2 (a5.mpr q))
      exact u_note hg1 hr (by rw [b3]; exact w) (ha (Or.inl hw)) (fun M3 q1 q2 => hj M3 q1 (fun _ => q2))
  · rw [if_neg w]
    exact hj M (USG.rf h) (fun _ => w)
noncomputable def ui0 (a0 : Nat) (p2 p3 : Int32) : Mem × Int32 × Int32 × Int32 × Int32 × Int32 → Option ((Mem × Int32 × Int32 × Int32 × Int32 × Int32) ⊕ (Mem)) := (fun s4 => if s4.2.2.2.2.2 < 0 then (some (.inr s4.1)) else (bv (ir s4.2.1 6 : Int32) (fun x12 => bv (s4.2.1 / 6 : Int32) (fun x13 => grd (vp_in (p2 - 1) 7) (bv (((stV (p2 - 1).toNatClampNeg) + (x13 * s4.2.2.2.1)) + s4.2.2.1 : Int32) (fun x15 => bv (fun (s17 : Mem) => bv (s4.2.2.1 + (x12 * s4.2.2.2.1) : Int32) (fun x20 => bv (s4.2.2.2.1 * 6 : Int32) (fun x21 => bv (s4.2.2.2.2.2 + (-1) : Int32) (fun x22 => some (.inl (s17, x13, x20, x21, x12, x22)))))) (fun j16 => if x15 < 0 then (j16 s4.1) else (if 9331 ≤ x15 then (j16 s4.1) else (grd (okO s4.1 2 a0) (Option.bind (mR s4.1 a0 2) (fun r24 => grd (okO s4.1 16 r24) (grd (vp_in x15 (mL s4.1 r24)) (if (mI s4.1 r24 x15.toNatClampNeg) = (-1) then (bv (((sr p3 (3 * x12)) &&& 7) - 1 : Int32) (fun x27 => Option.bind (mR s4.1 a0 1) (fun r28 => grd (okO s4.1 8 r28) (Option.bind (f_X8_weightOf s4.1 r28 1 x12 s4.2.2.2.2.2 (p2 - 1) x27) (fun q30 => bv (fun (s36 : Mem) => Option.bind (f_X2_note s36 a0 x15) (fun q40 => j16 q40)) (fun j35 => if q30.2 = (-1) then (if s4.2.2.2.2.1 = x12 then (Option.bind (mR q30.1 a0 1) (fun r45 => grd (okO q30.1 8 r45) (Option.bind (f_X8_weightOf q30.1 r45 3 x12 s4.2.2.2.2.2 (p2 - 1) x27) (fun q47 => if q47.2 = (-1) then (j16 q47.1) else (j35 q47.1))))) else (j16 q30.1)) else (j35 q30.1))))))) else (j16 s4.1))))))))))))))
theorem undoIn_eq {M : Mem} {a0 : Nat} {p1 p2 p3 : Int32} : f_X2_undoInAndDouble M a0 p1 p2 p3 = grd (vp_in p2 7) (Option.bind (loopO (ui0 a0 p2 p3) (M, p1 - (stV p2.toNatClampNeg), 0, 1, -1, p2 - 1)) (fun x9 => some x9)) := rfl
/-- what PI asks of a place -/
def WPI (K : Nat → Int32) (y : Nat) (l a : List Nat) (x : Nat) (b : List Nat) : Prop := WOK K y 1 x a.length (l.length - 1) (l.count x - 1) ∨ ((∃ b', b = x :: b') ∧ WOK K y 3 x a.length (l.length - 1) (l.count x - 1))
theorem ui_step {K : Nat → Int32} {B y goal d kk to e : Nat} {M0 M : Mem} (h : UST K B y goal d kk to e M0 M) (hB : B < 16777216) (hk : KTH K) {l a b : List Nat} {x : Nat} (hl : DL l) (e0 : l = a ++ x :: b) (ht : to = rank l) {p3 : Int32} (hp3 : TSQ M p3 l) : TT (ui0 d (nI l.length) p3 (M, nI (val (a ++ [x])), nI (val b), nI (6 ^ b.length), hdI b, nI a.length)) (fun r => ∃ M1, r = Sum.inl (M1, nI (val a), nI (val (x :: b)), nI (6 ^ (b.length + 1)), nI x, nI a.length - 1) ∧ USG K B y goal d kk to e M0 M M1 ∧ (WPI K y l a x b → mI M1 (d + 1) (rank (a ++ b)) ≠ -1)) := by
  have hl1 := hl.1
  have hl2 := hl.2
  have hx : x < 6 := hl2 x (by rw [e0]; simp)
  have el : l.length = a.length + b.length + 1 := by rw [e0]; simp <;> omega
  have hda : DL (a ++ [x]) := (DL_sub (b := b) (by rw [List.append_assoc]; rw [e0] at hl; exact hl)).1
  have hdb : DL (x :: b) := (DL_sub (a := a) (by rw [e0] at hl; exact hl)).2
  have hdd : DL (a ++ b) := DL_del (by rw [e0] at hl; exact hl)
  have hv := hda.val
  obtain ⟨v1, v2⟩ := val_sn (a := a) hx (by omega)
  have hr : stN (l.length - 1) + val a * 6 ^ b.length + val b = rank (a ++ b) := by
    rw [rank_two, List.length_append, show l.length - 1 = a.length + b.length from by omega]
  have hrl := rank_lt hdd
  have hc : l.count x ≤ l.length := List.count_le_length
  have hc1 : 1 ≤ l.count x := List.one_le_count_iff.mpr (by rw [e0]; simp)
  obtain ⟨u1, u2, u3, u4, u5, u6, u7⟩ := id h
  obtain ⟨t1, t2, t3, t4, t5, t6, t7, t8, t9, t10⟩ := id u5
  have e1 : nI l.length - 1 = nI (l.length - 1) := by
    rw [show l.length = (l.length - 1) + 1 from by omega, nprd, Nat.add_sub_cancel]
  unfold ui0
  simp only
  rw [if_neg (ltz (by omega)), TT_bv, v1, TT_bv, v2, e1, grd_y ((nvp (by omega)).mpr (by omega)), stV_n (by omega), nmul, nadd, nadd, hr, TT_bv, TT_bv, if_neg (nrg hrl).1, if_neg (nrg hrl).2, grd_y t2, t5, Option.bind_some, grd_y t7, t8, grd_y ((nvp (by omega)).mpr hrl), nclampI (by omega)]
  refine u_try2 (ρ := (Mem × Int32 × Int32 × Int32 × Int32 × Int32) ⊕ Mem) (j := fun M1 => some (Sum.inl (M1, nI (val a), nI (val b) + nI x * nI (6 ^ b.length), nI (6 ^ b.length) * 6, nI x, nI a.length + (-1)))) (c := hdI b = nI x) h hB hrl (t := x) (p := a.length) (n := l.length - 1) (hh := l.count x - 1) hx (by omega) (by omega) (by omega) (hv := (sr p3 (3 * nI x) &&& 7) - 1) ?_ ?_ ?_
  · rcases hp3.h hl hx with q | q
    · exact Or.inl q
    · refine Or.inr ?_
      rw [q, show l.count x = (l.count x - 1) + 1 from by omega, nprd, Nat.add_sub_cancel]
  · rw [hdI_eq (fun z hz => hdb.2 z (List.mem_cons_of_mem _ hz)) hx]
    intro hw
    show adjK K y (rank (a ++ b)) to
    rw [ht]
    exact (adjK_P hk hl hdd).mpr (Or.inr (Or.inl ⟨a, x, b, e0, rfl, hw⟩))
  · intro M1 c1 c2
    rw [hdI_eq (fun z hz => hdb.2 z (List.mem_cons_of_mem _ hz)) hx] at c2
    rw [TT_some]
    refine ⟨M1, ?_, c1, c2⟩
    rw [nmul, nadd, val_cons, Nat.add_comm (val b), show nI (6 ^ b.length) * 6 = nI (6 ^ b.length * 6) from nmul _ 6, Nat.pow_succ, ladd]
theorem c_undoIn {K : Nat → Int32} {B y goal d kk to e : Nat} {M0 M : Mem} (h : UST K B y goal d kk to e M0 M) (hB : B < 16777216) (hk : KTH K) {l : List Nat} (hl : DL l) (ht : to = rank l) {p3 : Int32} (hp3 : TSQ M p3 l) : TT (f_X2_undoInAndDouble M d (nI (rank l)) (nI l.length) p3) (fun M1 => USG K B y goal d kk to e M0 M M1 ∧ ∀ l', DL l' → PI K y l l' → mI M1 (d + 1) (rank l') ≠ -1) := by
  have hrv := rank_val l
  have hl1 := hl.1
  rw [undoIn_eq, grd_y ((nvp (by omega)).mpr (by omega)), stV_n (by omega), nsub (by omega), show rank l - stN l.length = val l from by omega, TT_bind]
  refine (TT_for l.length (fun k s => USG K B y goal d kk to e M0 M s.1 ∧ (∀ a x b, l = a ++ x :: b → b.length < k → WPI K y l a x b → mI s.1 (d + 1) (rank (a ++ b)) ≠ -1) ∧ ∃ a b, l = a ++ b ∧ b.length = k ∧ s.2 = (nI (val a), nI (val b), nI (6 ^ k), hdI b, nI a.length - 1)) (Q := fun M1 => USG K B y goal d kk to e M0 M M1 ∧ ∀ l', DL l' → PI K y l l' → mI M1 (d + 1) (rank l') ≠ -1) ?_ (Nat.zero_le _) ?_).mono (fun x hx => TT_some.mpr hx)
  · rintro k ⟨M', hi, lo, un, ri, pl⟩ hkn ⟨hg, hf, a, b, e1, e2, e3⟩
    simp only at hg hf e3
    cases e3
    have el : l.length = a.length + b.length := by rw [e1]; simp
    rcases snoc_of a with rfl | ⟨c, x, rfl⟩
    · unfold ui0
      simp only
      rw [if_pos (show nI ([] : List Nat).length - 1 < 0 from nm1), TT_some]
      refine ⟨hg, fun l' _ ⟨a, x, b', q1, q2, hw⟩ => ?_⟩
      rw [q2]
      refine hf a x b' q1 ?_ hw
      have := congrArg List.length q1
      simp at this el
      omega
    · have e1' : l = c ++ x :: b := by rw [e1]; simp
      rw [List.length_append, List.length_singleton, nprd, ← e2]
      refine (ui_step hg.1 hB hk hl e1' ht (p3 := p3) (by unfold TSQ; rw [hg.2.2]; exact hp3)).mono ?_
      rintro r ⟨M1, rfl, g1, g2⟩
      rw [List.length_append, List.length_singleton] at el
      refine ⟨by omega, hg.tr g1, fun a' x' b' q1 q2 q3 => ?_, c, x :: b, e1', rfl, rfl⟩
      by_cases q : b'.length = b.length
      · obtain ⟨r1, r2⟩ := List.append_inj' (e1'.symm.trans q1) (by simp [q])
        cases r2
        subst r1
        exact g2 q3
      · exact g1.2.1 _ (rank_lt (DL_del (by rw [← q1]; exact hl))) (hf a' x' b' q1 (by omega) q3)
  · exact ⟨USG.rf h, fun a x b _ q => by omega, l, [], by simp, rfl, rfl⟩
