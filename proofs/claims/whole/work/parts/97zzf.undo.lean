/-! what leads to a DISH: the four ways to undo a change -/
def USG (K : Nat → Int32) (B y goal d kk to e : Nat) (M0 M M1 : Mem) : Prop := UST K B y goal d kk to e M0 M1 ∧ GRW d M M1 ∧ mR M1 = mR M
theorem USG.rf {K : Nat → Int32} {B y goal d kk to e : Nat} {M0 M : Mem} (h : UST K B y goal d kk to e M0 M) : USG K B y goal d kk to e M0 M M := ⟨h, GRW.rf, rfl⟩
theorem USG.tr {K : Nat → Int32} {B y goal d kk to e : Nat} {M0 M M1 M2 : Mem} (h : USG K B y goal d kk to e M0 M M1) (h2 : USG K B y goal d kk to e M0 M1 M2) : USG K B y goal d kk to e M0 M M2 := ⟨h2.1, h.2.1.tr h2.2.1, h2.2.2.trans h.2.2⟩
theorem okLC {M : Mem} (h : MID M) : okO M 8 21 := by
  have hL := h.1.1
  unfold LayC at hL
  simp only [hL]
def TSQ (M : Mem) (p3 : Int32) (l : List Nat) : Prop := mR M 21 3 = none ∨ p3 = nI (tst l)
theorem TSQ.h {M : Mem} {p3 : Int32} {l : List Nat} (h : TSQ M p3 l) (hl : DL l) {t : Nat} (ht : t < 6) : mR M 21 3 = none ∨ sr p3 (3 * nI t) &&& 7 = nI (l.count t) := by
  rcases h with q | q
  · exact Or.inl q
  · exact Or.inr (by rw [q]; exact holds_n hl ht)
theorem rank_ins (a : List Nat) (x : Nat) (b : List Nat) : rank (a ++ x :: b) = stN ((a ++ b).length + 1) + val a * 6 * 6 ^ b.length + val b + x * 6 ^ b.length := by
  rw [rank_val, val_app, val_cons, List.length_append, List.length_cons, List.length_append]
  rw [show a.length + (b.length + 1) = a.length + b.length + 1 from by omega, Nat.pow_succ]
  have : val a * (6 ^ b.length * 6) = val a * 6 * 6 ^ b.length := by ac_rfl
  omega
theorem rank_two (a b : List Nat) : rank (a ++ b) = stN (a ++ b).length + val a * 6 ^ b.length + val b := by
  rw [rank_val, val_app]
  omega
theorem DL_ins {a b : List Nat} (h : DL (a ++ b)) (h4 : (a ++ b).length ≤ 4) {x : Nat} (hx : x < 6) : DL (a ++ x :: b) := by
  refine ⟨by simp at h4 ⊢; omega, fun z hz => ?_⟩
  rcases List.mem_append.mp hz with w | w
  · exact h.2 z (List.mem_append_left _ w)
  · rcases List.mem_cons.mp w with w | w
    · omega
    · exact h.2 z (List.mem_append_right _ w)
theorem DL_del {a b : List Nat} {x : Nat} (h : DL (a ++ x :: b)) : DL (a ++ b) := by
  refine ⟨by have := h.1; simp at this ⊢; omega, fun z hz => ?_⟩
  rcases List.mem_append.mp hz with w | w
  · exact h.2 z (List.mem_append_left _ w)
  · exact h.2 z (List.mem_append_right _ (List.mem_cons_of_mem _ w))
theorem DL_set {a b : List Nat} {x z : Nat} (h : DL (a ++ x :: b)) (hz : z < 6) : DL (a ++ z :: b) := by
  refine ⟨by have := h.1; simp at this ⊢; omega, fun q hq => ?_⟩
  rcases List.mem_append.mp hq with w | w
  · exact h.2 q (List.mem_append_left _ w)
  · rcases List.mem_cons.mp w with w | w
    · omega
    · exact h.2 q (List.mem_append_right _ (List.mem_cons_of_mem _ w))
theorem snoc_of (a : List Nat) : a = [] ∨ ∃ c x, a = c ++ [x] := by
  cases h : a.reverse with
  | nil =>
    left
    rw [← List.reverse_reverse a, h]
    rfl
  | cons x r =>
    right
    exact ⟨r.reverse, x, by rw [← List.reverse_reverse a, h, List.reverse_cons]⟩
theorem val_sn {a : List Nat} {x : Nat} (hx : x < 6) (h : val (a ++ [x]) < 2147483648) : ir (nI (val (a ++ [x]))) 6 = nI x ∧ nI (val (a ++ [x])) / 6 = nI (val a) := by
  have e : val (a ++ [x]) = val a * 6 + x := by
    rw [val_app, val_cons]
    simp [show val [] = 0 from rfl]
  have d1 : val (a ++ [x]) % 6 = x := by omega
  have d2 : val (a ++ [x]) / 6 = val a := by omega
  constructor
  · rw [show (6 : Int32) = nI 6 from rfl, nrem h (by omega) (by omega), d1]
  · rw [show (6 : Int32) = nI 6 from rfl, ndiv h (by omega) (by omega), d2]
theorem DL_sub {a b : List Nat} (h : DL (a ++ b)) : DL a ∧ DL b := by
  have := h.1
  rw [List.length_append] at this
  exact ⟨⟨by omega, fun z hz => h.2 z (List.mem_append_left _ hz)⟩, ⟨by omega, fun z hz => h.2 z (List.mem_append_right _ hz)⟩⟩
theorem c6k {k : Nat} (h : k ≤ 6) : ((6 : Int32) ≤ nI k) ↔ k = 6 := by
  rw [show (6 : Int32) = nI 6 from rfl, nleI (by omega) (by omega)]
  omega
theorem ltz {n : Nat} (h : n < 2147483648) : ¬ nI n < 0 := by
  rw [show (0 : Int32) = nI 0 from rfl, nltI h (by omega)]
  omega
noncomputable def uo1 (a0 : Nat) (sg un pl p2 p3 : Int32) : Mem × Int32 × Int32 → Option ((Mem × Int32 × Int32) ⊕ (Mem)) := (fun s17 => if 6 ≤ s17.2.2 then (some (.inr s17.1)) else (if sg = 0 then (some (.inr s17.1)) else (grd (okO s17.1 2 a0) (Option.bind (mR s17.1 a0 2) (fun r26 => grd (okO s17.1 16 r26) (grd (vp_in s17.2.1 (mL s17.1 r26)) (bv (fun (s30 : Mem) => bv (s17.2.1 + un : Int32) (fun x34 => bv (s17.2.2 + 1 : Int32) (fun x35 => some (.inl (s30, x34, x35))))) (fun j29 => if (mI s17.1 r26 s17.2.1.toNatClampNeg) = (-1) then (Option.bind (mR s17.1 a0 1) (fun r36 => grd (okO s17.1 8 r36) (Option.bind (f_X8_weightOf s17.1 r36 0 s17.2.2 pl (p2 + 1) (((sr p3 (3 * s17.2.2)) &&& 7) + 1)) (fun q38 => if q38.2 = (-1) then (j29 q38.1) else (Option.bind (f_X2_note q38.1 a0 s17.2.1) (fun q43 => j29 q43)))))) else (j29 s17.1)))))))))
noncomputable def uo0 (a0 : Nat) (p2 p3 : Int32) : Mem × Int32 × Int32 × Int32 × Int32 → Option ((Mem × Int32 × Int32 × Int32 × Int32) ⊕ (Mem)) := (fun s3 => if s3.2.2.2.2 < 0 then (some (.inr s3.1)) else (grd (vp_in (p2 + 1) 7) (bv (((stV (p2 + 1).toNatClampNeg) + ((s3.2.1 * 6) * s3.2.2.2.1)) + s3.2.2.1 : Int32) (fun x12 => bv (fun (s14 : Int32) => Option.bind (loopO (uo1 a0 s14 s3.2.2.2.1 s3.2.2.2.2 p2 p3) (s3.1, x12, 0)) (fun (x23 : Mem) => bv (s3.2.2.1 + ((ir s3.2.1 6) * s3.2.2.2.1) : Int32) (fun x48 => bv (s3.2.1 / 6 : Int32) (fun x49 => bv (s3.2.2.2.1 * 6 : Int32) (fun x50 => bv (s3.2.2.2.2 + (-1) : Int32) (fun x51 => some (.inl (x23, x49, x48, x50, x51)))))))) (fun j13 => bv (fun (s53 : Unit) => j13 0) (fun j52 => if x12 < 0 then (j52 ()) else (if 9331 ≤ (x12 + (5 * s3.2.2.2.1)) then (j52 ()) else (j13 1))))))))
theorem undoOut_eq {M : Mem} {a0 : Nat} {p1 p2 p3 : Int32} : f_X2_undoOut M a0 p1 p2 p3 = grd (vp_in p2 7) (Option.bind (loopO (uo0 a0 p2 p3) (M, p1 - (stV p2.toNatClampNeg), 0, 1, p2)) (fun x9 => some x9)) := rfl
theorem c_uo1 {sg : Int32} (hsg : ¬ sg = 0) {K : Nat → Int32} {B y goal d kk to e : Nat} {M0 M : Mem} (h : UST K B y goal d kk to e M0 M) (hB : B < 16777216) (hk : KTH K) {l a b : List Nat} (hl : DL l) (e0 : l = a ++ b) (h4 : l.length ≤ 4) (ht : to = rank l) {p3 : Int32} (hp3 : TSQ M p3 l) : TT (loopO (uo1 d sg (nI (6 ^ b.length)) (nI a.length) (nI l.length) p3) (M, nI (stN (l.length + 1) + val a * 6 * 6 ^ b.length + val b), 0)) (fun M1 => USG K B y goal d kk to e M0 M M1 ∧ ∀ t, t < 6 → WOK K y 0 t a.length (l.length + 1) (l.count t + 1) → mI M1 (d + 1) (rank (a ++ t :: b)) ≠ -1) := by
  have ha5 : a.length ≤ l.length := by rw [e0]; simp
  refine TT_for 6 (fun k s => ∃ M', s = (M', nI (stN (l.length + 1) + val a * 6 * 6 ^ b.length + val b + k * 6 ^ b.length), nI k) ∧ USG K B y goal d kk to e M0 M M' ∧ ∀ t, t < k → WOK K y 0 t a.length (l.length + 1) (l.count t + 1) → mI M' (d + 1) (rank (a ++ t :: b)) ≠ -1) ?_ (Nat.zero_le _) ⟨M, by rw [Nat.zero_mul, Nat.add_zero]; rfl, USG.rf h, fun t ht => by omega⟩
  rintro k s hk6 ⟨M', rfl, hg, hf⟩
  have c6 := c6k hk6
  unfold uo1
  simp only
  by_cases w : k = 6
  · rw [if_pos (c6.mpr w), TT_some]
    exact ⟨hg, fun t ht' => hf t (by omega)⟩
  · have hlt : k < 6 := by omega
    have hd' : DL (a ++ k :: b) := DL_ins (by rw [← e0]; exact hl) (by rw [← e0]; exact h4) hlt
    have hr : stN (l.length + 1) + val a * 6 * 6 ^ b.length + val b + k * 6 ^ b.length = rank (a ++ k :: b) := by rw [rank_ins, ← e0]
    have hrl := rank_lt hd'
    obtain ⟨u1, u2, u3, u4, u5, u6, u7⟩ := id hg.1
    obtain ⟨t1, t2, t3, t4, t5, t6, t7, t8, t9, t10⟩ := id u5
    have hc : l.count k ≤ l.length := List.count_le_length
    rw [if_neg (fun q => w (c6.mp q)), if_neg hsg, grd_y t2, t5, Option.bind_some, grd_y t7, t8, hr, grd_y ((nvp (by omega)).mpr hrl), nclampI (by omega), TT_bv, t4, Option.bind_some, grd_y (okLC u1), nsucc l.length]
    refine u_try (ρ := (Mem × Int32 × Int32) ⊕ Mem) (j := fun M1 => some (Sum.inl (M1, nI (rank (a ++ k :: b)) + nI (6 ^ b.length), nI k + 1))) hg.1 hB hrl (s := 0) (t := k) (p := a.length) (n := l.length + 1) (hh := l.count k + 1) (by omega) hlt (by omega) (by omega) (by omega) ?_ ?_ ?_
    · rw [hg.2.2]
      rcases hp3.h hl hlt with q | q
      · exact Or.inl q
      · exact Or.inr (by rw [q, nsucc])
    · intro hw
      show adjK K y (rank (a ++ k :: b)) to
      rw [ht]
      exact (adjK_P hk hl hd').mpr (Or.inl ⟨a, k, b, e0, rfl, hlt, hw⟩)
    · intro M1 c1 c2 c3 c4
      rw [TT_some]
      refine ⟨hlt, M1, ?_, ⟨c1, hg.2.1.tr c2, c3.trans hg.2.2⟩, fun t ht' hw => ?_⟩
      · rw [nadd, nsucc, ← hr, Nat.succ_mul, Nat.add_assoc _ (k * 6 ^ b.length)]
      · by_cases q : t = k
        · subst q
          exact c4 hw
        · exact c2 _ (rank_lt (DL_ins (by rw [← e0]; exact hl) (by rw [← e0]; exact h4) (by omega))) (hf t (by omega) hw)
theorem c_undoOut {K : Nat → Int32} {B y goal d kk to e : Nat} {M0 M : Mem} (h : UST K B y goal d kk to e M0 M) (hB : B < 16777216) (hk : KTH K) {l : List Nat} (hl : DL l) (h4 : l.length ≤ 4) (ht : to = rank l) {p3 : Int32} (hp3 : TSQ M p3 l) : TT (f_X2_undoOut M d (nI (rank l)) (nI l.length) p3) (fun M1 => USG K B y goal d kk to e M0 M M1 ∧ ∀ l', DL l' → PO K y l l' → mI M1 (d + 1) (rank l') ≠ -1) := by
  have hrv := rank_val l
  rw [undoOut_eq, grd_y ((nvp (by omega)).mpr (by omega)), stV_n (by omega), nsub (by omega), show rank l - stN l.length = val l from by omega, TT_bind]
  refine (TT_for (l.length + 1) (fun k s => USG K B y goal d kk to e M0 M s.1 ∧ (∀ a x b, l = a ++ b → b.length < k → x < 6 → WOK K y 0 x a.length (l.length + 1) (l.count x + 1) → mI s.1 (d + 1) (rank (a ++ x :: b)) ≠ -1) ∧ (k ≤ l.length → ∃ a b, l = a ++ b ∧ b.length = k ∧ s.2 = (nI (val a), nI (val b), nI (6 ^ k), nI a.length)) ∧ (k = l.length + 1 → s.2.2.2.2 < 0)) (Q := fun M1 => USG K B y goal d kk to e M0 M M1 ∧ ∀ l', DL l' → PO K y l l' → mI M1 (d + 1) (rank l') ≠ -1) ?_ (Nat.zero_le _) ?_).mono (fun x hx => TT_some.mpr hx)
  · rintro k ⟨M', hi, lo, un, pl⟩ hkn ⟨hg, hf, hs, hn⟩
    simp only at hg hf hs hn
    by_cases w : k = l.length + 1
    · unfold uo0
      simp only
      rw [if_pos (hn w), TT_some]
      refine ⟨hg, fun l' _ ⟨a, x, b, e1, e2, hx, hw⟩ => ?_⟩
      rw [e2]
      exact hf a x b e1 (by rw [w, e1]; simp <;> omega) hx hw
    · obtain ⟨a, b, e1, e2, e3⟩ := hs (by omega)
      cases e3
      have hda := (DL_sub (by rw [← e1]; exact hl)).1
      have hdb := (DL_sub (by rw [← e1]; exact hl)).2
      have el : l.length = a.length + b.length := by rw [e1]; simp
      have h6 : rank (a ++ 5 :: b) < 9331 := rank_lt (DL_ins (by rw [← e1]; exact hl) (by rw [← e1]; exact h4) (by omega))
      rw [rank_ins, ← e1, e2] at h6
      have h8 : ¬ nI (stN (l.length + 1) + val a * 6 * 6 ^ k + val b) < 0 := (nrg (by omega)).1
      have h9 : ¬ (9331 : Int32) ≤ nI (stN (l.length + 1) + val a * 6 * 6 ^ k + val b) + 5 * nI (6 ^ k) := by
        rw [show (5 : Int32) = nI 5 from rfl, nmul, nadd]
        exact (nrg h6).2
      unfold uo0
      simp only
      rw [if_neg (ltz (by omega)), nsucc, grd_y ((nvp (by omega)).mpr (by omega)), stV_n (by omega), show nI (val a) * 6 = nI (val a * 6) from nmul _ 6, nmul, nadd, nadd, TT_bv, TT_bv, TT_bv, if_neg h8, if_neg h9, ← e2]
      refine TT_bind.mpr ?_
      refine (c_uo1 (sg := 1) (by decide) hg.1 hB hk hl e1 h4 ht (p3 := p3) (by unfold TSQ; rw [hg.2.2]; exact hp3)).mono ?_
      rintro M1 ⟨g1, g2⟩
      rw [TT_bv, TT_bv, TT_bv, TT_bv, TT_some]
      refine ⟨by omega, hg.tr g1, fun a' x b' q1 q2 q3 q4 => ?_, fun q => ?_, fun q => ?_⟩
      · by_cases q : b'.length = b.length
        · obtain ⟨r1, r2⟩ := List.append_inj' (e1.symm.trans q1) q.symm
          subst r1
          subst r2
          exact g2 x q3 q4
        · exact g1.2.1 _ (rank_lt (DL_ins (by rw [← q1]; exact hl) (by rw [← q1]; exact h4) q3)) (hf a' x b' q1 (by omega) q3 q4)
      · rcases snoc_of a with rfl | ⟨c, x, rfl⟩
        · simp only [List.length_nil] at el
          omega
        · have hx : x < 6 := hda.2 x (by simp)
          have hv := hda.val
          obtain ⟨v1, v2⟩ := val_sn (a := c) hx (by omega)
          refine ⟨c, x :: b, by rw [e1]; simp, by simp, ?_⟩
          rw [v1, v2, nmul, nadd, val_cons, show nI (6 ^ b.length) * 6 = nI (6 ^ b.length * 6) from nmul _ 6, Nat.pow_succ, Nat.add_comm (val b)]
          simp only [List.length_append, List.length_singleton]
          rw [show (-1 : Int32) = -nI 1 from rfl, npred (by omega), Nat.add_sub_cancel]
      · have : a.length = 0 := by omega
        simp only [this]
        decide
  · refine ⟨USG.rf h, fun a x b _ q => by omega, fun _ => ⟨l, [], by simp, rfl, rfl⟩, fun q => by omega⟩
