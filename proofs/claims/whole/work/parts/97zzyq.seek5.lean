/-! LINES: the rows are tried -/
def GDL (W : Nat → Nat → Nat) (n L c : Nat) : Prop := TREE (mkC n c) n ∧ cs W (mkC n c) n = L
def RWS (W : Nat → Nat → Nat) (n L : Nat) (M : Mem) (X : Nat) : Prop := mI M 34 11 = nI (cg (GDL W n L) X) ∧ ∀ c, fg (GDL W n L) X = some c → ∀ k, k < n → mI M 38 k = oI (mkC n c k)
def Spd (a k : Nat) : Prop := a = 37 ∨ a = 38 ∨ (a = 34 ∧ k = 11)
/-- what does not change while rows are tried -/
def PDS (W : Nat → Nat → Nat) (n L : Nat) (x : Nat → Nat) (M : Mem) : Prop := LayC M ∧ PDW M n W ∧ FLR M n x ∧ mI M 34 10 = nI L
theorem PDS.fr {W : Nat → Nat → Nat} {n L : Nat} {x : Nat → Nat} {M M1 : Mem} (h : PDS W n L x M) (hF : Fr Spd M M1) : PDS W n L x M1 := ⟨h.1.fr hF, h.2.1.fr hF (by unfold Spd; omega) (fun k => by unfold Spd; omega), fun t ht => ⟨by rw [hF.i (by unfold Spd; omega)]; exact (h.2.2.1 t ht).1, by rw [hF.i (by unfold Spd; omega)]; exact (h.2.2.1 t ht).2⟩, by rw [hF.i (by unfold Spd; omega)]; exact h.2.2.2⟩
theorem RWS.fr {W : Nat → Nat → Nat} {n L : Nat} {M M1 : Mem} {X : Nat} (h : RWS W n L M X) (hF : Fr (fun a _ => a = 37) M M1) : RWS W n L M1 X := ⟨by rw [hF.i (by omega)]; exact h.1, fun c hc k hk => by rw [hF.i (by omega)]; exact h.2 c hc k hk⟩
theorem RWS.no {W : Nat → Nat → Nat} {n L : Nat} {M : Mem} {X j : Nat} (h : RWS W n L M X) (hno : ∀ c, X ≤ c → c < X + j → ¬ GDL W n L c) : RWS W n L M (X + j) := by
  obtain ⟨a, b⟩ := cg_no j X hno
  exact ⟨by rw [a]; exact h.1, by rw [b]; exact h.2⟩
theorem pow6 {n d : Nat} (hn : n ≤ 6) (hd : d ≤ n) : (n + 1) ^ d ≤ 117649 := Nat.le_trans (Nat.pow_le_pow_left (show n + 1 ≤ 7 by omega) d) (Nat.le_trans (Nat.pow_le_pow_right (by omega) (show d ≤ 6 by omega)) (by decide))
theorem cg_le {G : Nat → Prop} : ∀ X, cg G X ≤ X
  | 0 => Nat.le_refl _
  | X + 1 => by
    have := cg_le (G := G) X
    by_cases w : G X
    · rw [cg_y w]; omega
    · rw [(cg_n w).1]; omega
theorem cpok_6 {n : Nat} (hn : n ≤ 6) : cpok 0 (nI n) 6 := cpok_n (by omega) (by omega)
theorem c_noteRow {W : Nat → Nat → Nat} {n L : Nat} (hn : n ≤ 6) {x : Nat → Nat} {M : Mem} (h : PDS W n L x M) {X : Nat} (hX : X ≤ 117649) (hr : RWS W n L M X) (hg : GDL W n L X) (hm : ∀ k, k < n → mI M 37 k = oI (mkC n X k)) : TT (f_X5_noteRow M 34) (fun M1 => Fr Spd M M1 ∧ (∀ k, mI M1 37 k = mI M 37 k) ∧ RWS W n L M1 (X + 1)) := by
  obtain ⟨l1, -, -, -, l5, l6, l7⟩ := lyP h.1
  obtain ⟨-, -, -, p4, p5', p6, -⟩ := lyP2 h.1
  have hcl := cg_le (G := GDL W n L) X
  unfold f_X5_noteRow
  rw [grd_y l1, TT_bv, h.2.1.1, hr.1]
  by_cases w : cg (GDL W n L) X = 0
  · rw [if_pos (by rw [w]; rfl), l5, Option.bind_some, p4, Option.bind_some, grd_y l6, grd_y p5', l7, p6, grd_y (cpok_6 hn), grd_y (cpok_6 hn), TT_bv, TT_bv, TT_some]
    have eI := fun a => cpI_I (M := M) (a0 := 37) (b := 38) (n := n) (a := a) (by omega)
    have fc : Fr (fun a _ => a = 38) M (cpI M 37 0 38 0 (nI n)) := by
      refine ⟨rfl, rfl, rfl, rfl, rfl, fun a k hs => ⟨?_, rfl⟩⟩
      rw [eI a, if_neg hs]
    have e38 : ∀ k, k < n → mI (cpI M 37 0 38 0 (nI n)) 38 k = mI M 37 k := fun k hk => by
      rw [eI 38, if_pos rfl]
      simp only [if_pos hk]
    generalize cpI M 37 0 38 0 (nI n) = M1 at fc e38
    have e11 : mI M1 34 11 = nI (cg (GDL W n L) X) := by rw [fc.i (by omega)]; exact hr.1
    rw [e11, w]
    refine ⟨(fc.up (fun a k w => Or.inr (Or.inl w))).wI (Or.inr (Or.inr ⟨rfl, rfl⟩)), fun k => by rw [mI_wI_row (by omega), fc.i (by omega)], ?_, fun c hc k hk => ?_⟩
    · rw [mI_wIs, cg_y hg, w]
      rfl
    · rw [fg_y hg ((fg_0 X).mp w)] at hc
      cases hc
      rw [mI_wI_row (by omega), e38 k hk]
      exact hm k hk
  · rw [if_neg (show ¬ nI (cg (GDL W n L) X) = 0 from fun q : nI (cg (GDL W n L) X) = nI 0 => w ((neqI (by omega) (by omega)).mp q)), TT_bv, TT_some, hr.1, nsucc]
    refine ⟨Fr.rf.wI (Or.inr (Or.inr ⟨rfl, rfl⟩)), fun k => by rw [mI_wI_row (by omega)], by rw [mI_wIs, cg_y hg], fun c hc k hk => ?_⟩
    cases hf : fg (GDL W n L) X with
    | none => exact absurd ((fg_0 X).mpr hf) w
    | some c' =>
      rw [fg_s hf] at hc
      cases hc
      rw [mI_wI_row (by omega)]
      exact hr.2 _ hf k hk
/-- the first MOTHER among those told so far, if any -/
def RTD (m : Nat → Option Nat) (d : Nat) (rt : Int32) : Prop := (rt = -1 ∧ ∀ k, k < d → m k ≠ none) ∨ ∃ r, r < d ∧ rt = nI r ∧ m r = none ∧ ∀ k, k < d → m k = none → k = r
theorem left_n {a b c e : Nat} (ha : a < 100000000) (hb : b < 100000000) (hc : c < 100000000) (he : e < 100000000) : (0 ≤ ((nI a - nI b) - nI c) + nI e) ↔ b + c ≤ a + e := by
  rw [nI_ii, nI_ii, nI_ii, nI_ii, ii_sub, ii_sub, ii_add, show (0 : Int32) = ii 0 from rfl, ii_le ⟨by omega, by omega⟩ ⟨by omega, by omega⟩]
  omega
def upM (m : Nat → Option Nat) (d : Nat) (o : Option Nat) (k : Nat) : Option Nat := if k = d then o else m k
theorem upM_lt {m : Nat → Option Nat} {d : Nat} {o : Option Nat} {k : Nat} (h : k < d) : m k = upM m d o k := by
  unfold upM
  rw [if_neg (by omega)]
theorem upM_d {m : Nat → Option Nat} {d : Nat} {o : Option Nat} : upM m d o d = o := if_pos rfl
theorem enc_cg {n : Nat} {m m' : Nat → Option Nat} : ∀ d, (∀ k, k < d → m k = m' k) → enc n m d = enc n m' d
  | 0, _ => rfl
  | d + 1, h => by rw [enc, enc, enc_cg d (fun k hk => h k (by omega)), h d (by omega)]
noncomputable def sk5 (g : Mem → Nat → Int32 → Int32 → Int32 → Option Mem) (a0 : Nat) (p1 p2 p3 : Int32) : Mem × Int32 → Option ((Mem × Int32) ⊕ (Mem)) := (fun s15 => if (mI s15.1 a0 7) ≤ s15.2 then (some (.inr s15.1)) else (Option.bind (mR s15.1 a0 1) (fun r24 => grd (okO s15.1 14 r24) (grd (vp_in ((s15.2 * 6) + p1) (mL s15.1 r24)) (bv (mI s15.1 r24 ((s15.2 * 6) + p1).toNatClampNeg : Int32) (fun x27 => bv (fun (s29 : Mem) => bv (s15.2 + 1 : Int32) (fun x33 => some (.inl (s29, x33)))) (fun j28 => if (mI s15.1 a0 10) < (p3 + x27) then (j28 s15.1) else (Option.bind (f_X5_comesOf s15.1 a0 s15.2 p1) (fun q34 => if q34 = 0 then (Option.bind (mR s15.1 a0 2) (fun r37 => grd (okO s15.1 14 r37) (grd (vp_in p1 (mL s15.1 r37)) (bv (wI s15.1 r37 p1.toNatClampNeg s15.2) (fun M40 => Option.bind (g M40 a0 (p1 + 1) p2 (p3 + x27)) (fun q44 => j28 q44)))))) else (j28 s15.1))))))))))
noncomputable def skT (g : Mem → Nat → Int32 → Int32 → Int32 → Option Mem) (a0 : Nat) (p1 p2 p3 : Int32) (s11 : Mem) : Option Mem := Option.bind (loopO (sk5 g a0 p1 p2 p3) (s11, 0)) (fun (x22 : Mem) => some x22)
theorem seek5_eq {g : Mem → Nat → Int32 → Int32 → Int32 → Option Mem} {M : Mem} {a0 : Nat} {p1 p2 p3 : Int32} : b_X5_seek g M a0 p1 p2 p3 = grd (okO M 5 a0) (if p1 < (mI M a0 7) then (Option.bind (mR M a0 5) (fun r2 => grd (okO M 14 r2) (grd (vp_in p1 (mL M r2)) (bv (fun (s6 : Int32) => bv ((((mI M a0 10) - p3) - (mI M r2 p1.toNatClampNeg)) + s6 : Int32) (fun x9 => if 0 ≤ x9 then (bv (skT g a0 p1 p2 p3) (fun j10 => if p2 = (-1) then (Option.bind (mR M a0 2) (fun r49 => grd (okO M 14 r49) (grd (vp_in p1 (mL M r49)) (bv (wI M r49 p1.toNatClampNeg (-1)) (fun M52 => Option.bind (g M52 a0 (p1 + 1) p1 p3) (fun q56 => j10 q56)))))) else (j10 M))) else (some M))) (fun j5 => if p2 = (-1) then (Option.bind (mR M a0 6) (fun r61 => grd (okO M 14 r61) (grd (vp_in p1 (mL M r61)) (j5 (mI M r61 p1.toNatClampNeg))))) else (j5 0)))))) else (if p2 = (-1) then (some M) else (if p3 = (mI M a0 10) then (Option.bind (f_X5_noteRow M a0) (fun q64 => some q64)) else (some M)))) := rfl
/-- what trying all rows that begin so does -/
def SKS (W : Nat → Nat → Nat) (n L : Nat) (x : Nat → Nat) (g : Mem → Nat → Int32 → Int32 → Int32 → Option Mem) (d : Nat) : Prop := ∀ (M : Mem) (m : Nat → Option Nat) (rt : Int32), PDS W n L x M → MTR M m d → (∀ k i, k < d → m k = some i → i < n) → AC m d → RTD m d rt → cs W m d ≤ L → RWS W n L M (enc n m d * (n + 1) ^ (n - d)) → TT (g M 34 (nI d) rt (nI (cs W m d))) (fun M1 => Fr Spd M M1 ∧ (∀ k, k < d → mI M1 37 k = mI M 37 k) ∧ RWS W n L M1 ((enc n m d + 1) * (n + 1) ^ (n - d)))
/-- the rows of a block begin so -/
theorem blk_in {n d u c : Nat} {m : Nat → Option Nat} (hd : d ≤ n) (hm : ∀ k i, k < d → m k = some i → i < n) (hu : enc n m d = u) (h1 : u * (n + 1) ^ (n - d) ≤ c) (h2 : c < (u + 1) * (n + 1) ^ (n - d)) : ∀ k, k < d → mkC n c k = m k := by
  refine blk_digit d hd hm c ?_
  rw [hu]
  exact Nat.div_eq_of_lt_le h1 h2
