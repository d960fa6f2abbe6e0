/-! the table to a DISH -/
def TBN (M : Mem) (N : Nat) : Mem := wR (wR (wR (nA (wR (nA (nO M 2 11) 16 N) (mn M) 2 (some (mn M + 1))) 16 N) (mn M) 3 (some (mn M + 2))) (mn M) 0 (some 1)) (mn M) 1 (some 21)
theorem TBN_n {M : Mem} {N : Nat} : mn (TBN M N) = mn M + 3 ∧ mz (TBN M N) = mz M + 11 + N + N := ⟨rfl, rfl⟩
theorem TBN_K {M : Mem} {N a : Nat} : mK (TBN M N) a = if a = mn M + 2 then 16 else if a = mn M + 1 then 16 else if a = mn M then 2 else mK M a := rfl
theorem TBN_L {M : Mem} {N a : Nat} : mL (TBN M N) a = if a = mn M + 2 then N else if a = mn M + 1 then N else mL M a := rfl
theorem TBN_R {M : Mem} {N : Nat} : mR (TBN M N) (mn M) 0 = some 1 ∧ mR (TBN M N) (mn M) 1 = some 21 ∧ mR (TBN M N) (mn M) 2 = some (mn M + 1) ∧ mR (TBN M N) (mn M) 3 = some (mn M + 2) := by
  unfold TBN
  refine ⟨?_, ?_, ?_, ?_⟩
  · rw [mR_wR, if_neg (by omega), mR_wR, if_pos ⟨rfl, rfl⟩]
  · rw [mR_wR, if_pos ⟨rfl, rfl⟩]
  · rw [mR_wR, if_neg (by omega), mR_wR, if_neg (by omega), mR_wR, if_neg (by omega)]
    rw [(nA_v).2.2.2.2, if_neg (by show ¬ mn M = mn M + 1 + 1; omega), mR_wR, if_pos ⟨rfl, rfl⟩]
  · rw [mR_wR, if_neg (by omega), mR_wR, if_neg (by omega), mR_wR, if_pos ⟨rfl, rfl⟩]
theorem TBN_fw {S R : Nat → Nat → Prop} {M : Mem} {N : Nat} : Fw S R M (TBN M N) := by
  have a1 : Fw (fun _ _ => False) (fun a _ => a = mn M) M (nO M 2 11) := Fw_nO
  have a2 : Fw (fun _ _ => False) (fun a _ => a = mn M) M (nA (nO M 2 11) 16 N) := a1.tr Fw_nA
  have a3 := Fw.wR (a := mn M) (k := 2) (r := some (mn M + 1)) a2 rfl
  have a4 := Fw.tr a3 (Fw_nA (c := 16) (n := N))
  have a5 := Fw.wR (a := mn M) (k := 3) (r := some (mn M + 2)) a4 rfl
  have a6 := Fw.wR (a := mn M) (k := 0) (r := some 1) a5 rfl
  have h := Fw.wR (a := mn M) (k := 1) (r := some 21) a6 rfl
  exact h.res.up (fun a k w => w.1.elim) (fun a k w => by omega)
theorem TBN_tb {M : Mem} (h78 : 78 ≤ mn M) : TB (TBN M 9331) (mn M) := by
  obtain ⟨r0, r1, r2, r3⟩ := TBN_R (M := M) (N := 9331)
  have k : ∀ a, mK (TBN M 9331) a = if a = mn M + 2 then 16 else if a = mn M + 1 then 16 else if a = mn M then 2 else mK M a := fun a => TBN_K
  have l : ∀ a, mL (TBN M 9331) a = if a = mn M + 2 then 9331 else if a = mn M + 1 then 9331 else mL M a := fun a => TBN_L
  have n := (TBN_n (M := M) (N := 9331)).1
  refine ⟨h78, ⟨by omega, ?_⟩, r0, r1, r2, r3, ⟨by omega, ?_⟩, ?_, ⟨by omega, ?_⟩, ?_⟩
  · rw [k, if_neg (by omega), if_neg (by omega), if_pos rfl]
  · rw [k, if_neg (by omega), if_pos rfl]
  · rw [l, if_neg (by omega), if_pos rfl]
  · rw [k, if_pos rfl]
  · rw [l, if_pos rfl]
theorem c_init2 {M : Mem} : f_X2_init (nO M 2 11) (mn M) 1 21 = some (TBN M 9331) := by
  unfold f_X2_init
  have hN : (9331 : Int32).toNatClampNeg = 9331 := by decide
  rw [hN]
  generalize 9331 = N
  simp only [bv]
  have h1 : okO (nA (nO M 2 11) 16 N) 2 (mn M) := by
    refine ⟨by show _ < mn M + 1 + 1; omega, ?_⟩
    show va_up (va_up (mK M) (mn M) 2) (mn M + 1) 16 (mn M) = 2
    rw [vu, if_neg (by omega), vu, if_pos rfl]
  rw [grd_y h1]
  rfl
noncomputable def ttT (a0 : Nat) (p1 p2 : Int32) (s48 : Mem) : Option (Mem × Nat) := Option.bind (mR s48 a0 2) (fun r52 => grd (okO s48 18 r52) (grd (vp_in (mI s48 a0 3) (mL s48 r52)) (Option.bind (mR s48 r52 (mI s48 a0 3).toNatClampNeg) (fun r55 => grd (okO s48 2 r55) (Option.bind (f_X2_begin s48 r55 p1 p2) (fun q57 => Option.bind (mR q57 a0 2) (fun r62 => grd (okO q57 18 r62) (grd (vp_in (mI q57 a0 3) (mL q57 r62)) (Option.bind (mR q57 r62 (mI q57 a0 3).toNatClampNeg) (fun r65 => some (q57, r65)))))))))))
noncomputable def ttE (a0 : Nat) (p1 p2 : Int32) (q4 : Mem) : Option (Mem × Nat) := bv (wI q4 a0 3 (ir ((mI q4 a0 3) + 1) 3)) (fun M39 => Option.bind (mR M39 a0 2) (fun r43 => grd (okO M39 18 r43) (grd (vp_in (mI M39 a0 3) (mL M39 r43)) (ncase (mR M39 r43 (mI M39 a0 3).toNatClampNeg) (bv (ttT a0 p1 p2) (fun j47 => Option.bind (mR M39 a0 2) (fun r66 => bv (nO M39 2 11) (fun M67 => Option.bind (mR M67 a0 0) (fun r72 => Option.bind (mR M67 a0 1) (fun r73 => Option.bind (f_X2_init M67 (mn M39) r72 r73) (fun q74 => grd (okO q74 18 r66) (grd (vp_in (mI M39 a0 3) (mL q74 r66)) (bv (wR q74 r66 (mI M39 a0 3).toNatClampNeg (some (mn M39))) (fun M82 => j47 M82)))))))))) (fun r46 => bv (ttT a0 p1 p2) (fun j86 => j86 M39))))))
noncomputable def tt0 (a0 : Nat) (p1 p2 : Int32) (q4 : Mem) : Int32 → Option (Int32 ⊕ (Unit ⊕ Nat)) := (fun s9 => if 3 ≤ s9 then (some (.inr (.inl ()))) else (Option.bind (mR q4 a0 2) (fun r21 => grd (okO q4 18 r21) (grd (vp_in s9 (mL q4 r21)) (ncase (mR q4 r21 s9.toNatClampNeg) (bv (fun (s26 : Unit) => bv (s9 + 1 : Int32) (fun x29 => some (.inl x29))) (fun j25 => j25 ())) (fun r24 => bv (fun (s31 : Unit) => bv (s9 + 1 : Int32) (fun x34 => some (.inl x34))) (fun j30 => grd (okO q4 2 r24) (Option.bind (f_X2_isOf q4 r24 p1 p2) (fun q36 => if q36 = 0 then (j30 ()) else (some (.inr (.inr r24))))))))))))
theorem tableTo_eq {M : Mem} {a0 : Nat} {p1 p2 : Int32} : f_X4_tableTo M a0 p1 p2 = grd (okO M 4 a0) (Option.bind (mR M a0 1) (fun r2 => grd (okO M 8 r2) (Option.bind (f_X8_open M r2 p2) (fun q4 => Option.bind (loopO (tt0 a0 p1 p2 q4) 0) (Sum.elim (fun (x17 : Unit) => ttE a0 p1 p2 q4) (fun (x19 : Nat) => some (q4, x19))))))) := rfl
theorem nc_some {α : Type} {r : Option Nat} {d : Nat} (h : r = some d) {a : Option α} {f : Nat → Option α} : ncase r a f = f d := by
  subst h
  rfl
theorem okLP {M : Mem} (h : MID M) : okO M 4 32 ∧ mR M 32 0 = some 1 ∧ mR M 32 1 = some 21 ∧ mR M 32 2 = some 33 ∧ okO M 18 33 ∧ mL M 33 = 3 := by
  have hL := h.1.1
  unfold LayC at hL
  simp only [hL, and_self]
theorem c_ttT {B y g t d : Nat} {M : Mem} (h : MID M) (hO : OPN B y M) (hg : g < 9331) (hy : y ≤ 999) (ht : t < 3) (h3 : mI M 32 3 = nI t) (hd : mR M 33 t = some d) (hT : TB M d) (hx : PTX t M) (hno : ∀ j d', j < 3 → j ≠ t → mR M 33 j = some d' → ¬ MTC M d' (nI g) (nI y)) : TT (ttT 32 (nI g) (nI y) M) (fun q => ∃ Q D, q.2 = d ∧ TIN B y g t d q.1 Q D ∧ mI q.1 49 = mI M 49 ∧ Fr (Std d) M q.1) := by
  obtain ⟨l1, l2, l3, l4, l5, l6⟩ := okLP h
  have h78 := hT.1
  unfold ttT
  rw [l4, Option.bind_some, grd_y l5, h3, l6, grd_y ((nvp (by omega)).mpr ht), nclampI (by omega), hd, Option.bind_some, grd_y hT.2.1, TT_bind]
  refine (c_begin h hO hT hg).mono ?_
  rintro M1 ⟨a1, a2, a3, a4, a5⟩
  have e3 : mI M1 32 3 = nI t := by rw [a2.i (by unfold Std; omega)]; exact h3
  have er : mR M1 = mR M := a2.2.2.2.2.1
  have e13 : mI M1 1 13 = mI M 1 13 := a2.i (by unfold Std; omega)
  have e49 : mI M1 49 = mI M 49 := a1.2.2.1
  rw [er, l4, Option.bind_some, grd_y (okO_fr a2 l5), e3, a2.2.2.2.1, l6, grd_y ((nvp (by omega)).mpr ht), nclampI (by omega), hd, Option.bind_some, TT_some]
  obtain ⟨ru, r1, r2⟩ := hO.ru
  have hd1 : mR M1 33 t = some d := by rw [er]; exact hd
  rw [← e49] at a1
  have hTB : TBO M1 d := a1.tbo hg hy a3 a4 (by rw [e13]; exact a5) (by rw [e13]; exact r1) r2
  refine ⟨_, _, rfl, ⟨ht, hd1, (hx.fr h.2.1 hd ht hT a2 (fun a k w => Or.inl w)).all ht e3 hd1 hTB, ⟨0, a1⟩, ⟨a3, a4, by rw [e13]; exact a5⟩, fun j d' hj e' => ?_⟩, e49, a2⟩
  rw [er] at e'
  have hT' := (hx.2 j d' (by omega) (by omega) e').1
  have hdd : d ≠ d' := fun q => by
    have := hx.1 j t d (by omega) ht (by rw [q]; exact e') hd
    omega
  rw [MTC.e (fun k hk => a2.i (fun w => TB.dj hT hT' hdd w (Or.inl rfl))) e13]
  exact hno j d' (by omega) (by omega) e'
def Spc (M : Mem) (a k : Nat) : Prop := (a = 21 ∧ 4 ≤ k) ∨ (23 ≤ a ∧ a ≤ 31) ∨ (a = 32 ∧ k = 3) ∨ (78 ≤ a ∧ (mK M a = 2 ∨ mK M a = 16))
def Rpc (a k : Nat) : Prop := Rop a k ∨ a = 33
theorem Spc.tr {M M1 M2 : Mem} (h : Fw (Spc M) Rpc M M1) (h2 : Fw (Spc M1) Rpc M1 M2) : Fw (Spc M) Rpc M M2 := by
  refine ⟨Nat.le_trans h.1 h2.1, Nat.le_trans h.2.1 h2.2.1, fun a ha => ?_, fun a k ha w => ?_, fun a k ha w => ?_⟩
  · have ha1 : a < mn M1 := Nat.lt_of_lt_of_le ha h.1
    exact ⟨(h2.2.2.1 a ha1).1.trans (h.2.2.1 a ha).1, (h2.2.2.1 a ha1).2.trans (h.2.2.1 a ha).2⟩
  · have ha1 : a < mn M1 := Nat.lt_of_lt_of_le ha h.1
    exact (h2.2.2.2.1 a k ha1 w).trans (h.2.2.2.1 a k ha w)
  · have ha1 : a < mn M1 := Nat.lt_of_lt_of_le ha h.1
    have w1 : ¬ Spc M1 a k := fun q => w (by
      unfold Spc at q ⊢
      rw [(h.2.2.1 a ha).1] at q
      exact q)
    exact ⟨(h2.2.2.2.2 a k ha1 w1).1.trans (h.2.2.2.2 a k ha w).1, (h2.2.2.2.2 a k ha1 w1).2.trans (h.2.2.2.2 a k ha w).2⟩
def nn : Option Nat → Nat
  | none => 1
  | some _ => 0
def ptk (M : Mem) : Nat := nn (mR M 33 0) + nn (mR M 33 1) + nn (mR M 33 2)
theorem ptk_new {M M1 : Mem} {t d : Nat} (ht : t < 3) (h : mR M 33 t = none) (h1 : ∀ i, mR M1 33 i = if i = t then some d else mR M 33 i) : ptk M1 + 1 = ptk M := by
  unfold ptk
  rw [h1 0, h1 1, h1 2]
  match t, ht with
  | 0, _ => rw [if_pos rfl, if_neg (by omega), if_neg (by omega), h]; simp only [nn]; omega
  | 1, _ => rw [if_neg (by omega), if_pos rfl, if_neg (by omega), h]; simp only [nn]; omega
  | 2, _ => rw [if_neg (by omega), if_neg (by omega), if_pos rfl, h]; simp only [nn]
theorem ptk_r {M M1 : Mem} (h : mR M1 = mR M) : ptk M1 = ptk M := by
  unfold ptk
  rw [h]
theorem TB.spc {M : Mem} {d : Nat} (h : TB M d) : ∀ a k, Std d a k → Spc M a k := fun a k w => by
  have h1 := h.1
  have a1 := h.2.1.2
  have a2 := h.2.2.2.2.2.2.1.2
  have a3 := h.2.2.2.2.2.2.2.2.1.2
  rcases w with rfl | rfl | rfl
  · exact Or.inr (Or.inr (Or.inr ⟨h1, Or.inl a1⟩))
  · exact Or.inr (Or.inr (Or.inr ⟨by omega, Or.inr a2⟩))
  · exact Or.inr (Or.inr (Or.inr ⟨by omega, Or.inr a3⟩))
def PMN (M M1 : Mem) : Prop := mn M1 + 3 * ptk M1 = mn M + 3 * ptk M ∧ mz M1 + 18673 * ptk M1 = mz M + 18673 * ptk M
theorem PMN.tr {M M1 M2 : Mem} (h : PMN M M1) (h2 : PMN M1 M2) : PMN M M2 := ⟨h2.1.trans h.1, h2.2.trans h.2⟩
theorem PMN.fr {S : Nat → Nat → Prop} {M M1 : Mem} (h : Fr S M M1) : PMN M M1 := by
  unfold PMN
  rw [ptk_r h.2.2.2.2.1, h.1, h.2.1]
  exact ⟨rfl, rfl⟩
def TTQ (B y g : Nat) (M : Mem) (q : Mem × Nat) : Prop := ∃ i Q D, TIN B y g i q.2 q.1 Q D ∧ mI q.1 49 = mI M 49 ∧ Fw (Spc M) Rpc M q.1 ∧ PMN M q.1
def NEW3 (M : Mem) (t : Nat) : Mem := wR (TBN M 9331) 33 t (some (mn M))
theorem NEW3_v {M : Mem} {t : Nat} (h78 : 78 ≤ mn M) : Fw (fun _ _ => False) (fun a _ => a = 33) M (NEW3 M t) ∧ mn (NEW3 M t) = mn M + 3 ∧ mz (NEW3 M t) = mz M + 11 + 9331 + 9331 ∧ TB (NEW3 M t) (mn M) ∧ ∀ i, mR (NEW3 M t) 33 i = if i = t then some (mn M) else mR M 33 i := by
  have fN := TBN_fw (S := fun _ _ => False) (R := fun _ _ => False) (M := M) (N := 9331)
  obtain ⟨nN, zN⟩ := TBN_n (M := M) (N := 9331)
  have tN := TBN_tb h78
  unfold NEW3
  generalize TBN M 9331 = M2 at fN nN zN tN
  have fw3 : Fw (fun _ _ => False) (fun a _ => a = 33) M (wR M2 33 t (some (mn M))) := (fN.up (fun _ _ w => w) (fun _ _ w => w.elim)).wR rfl
  refine ⟨fw3, by rw [mn_wR]; exact nN, by rw [mz_wR]; exact zN, ?_, fun i => ?_⟩
  · have f : Fw (fun _ _ => False) (fun a _ => a = 33) M2 (wR M2 33 t (some (mn M))) := Fw.rf.wR rfl
    exact tN.fw f (fun k => by omega)
  · rw [mR_wR]
    by_cases q : i = t
    · rw [if_pos ⟨rfl, q⟩, if_pos q]
    · rw [if_neg (fun z => q z.2), if_neg q, fN.r (by omega) (fun z => z)]
theorem r33_old : ∀ a k : Nat, a = 33 → oldR a k = false ∧ a ≠ 9 ∧ (78 ≤ a → False) := fun a k w => by
  subst w
  exact ⟨by unfold oldR; simp, by omega, fun q => by omega⟩
theorem tbn_new {B y t : Nat} {M M3 : Mem} {p1 p2 : Int32} (h : MID M) (hO : OPN B y M) (hX : PTX t M) (ht : t < 3) (hd : mR M 33 t = none) (e3 : mI M 32 3 = nI t) (hno : ∀ j d', j < 3 → mR M 33 j = some d' → ¬ MTC M d' p1 p2) (hF : Fw (fun _ _ => False) (fun a _ => a = 33) M M3) (hn : mn M3 = mn M + 3) (hz : mz M3 = mz M + 11 + 9331 + 9331) (hT : TB M3 (mn M)) (hr : ∀ i, mR M3 33 i = if i = t then some (mn M) else mR M 33 i) : MID M3 ∧ OPN B y M3 ∧ mI M3 49 = mI M 49 ∧ mI M3 32 3 = nI t ∧ PTX t M3 ∧ (∀ j d', j < 3 → j ≠ t → mR M3 33 j = some d' → ¬ MTC M3 d' p1 p2) ∧ Fw (Spc M) Rpc M M3 ∧ PMN M M3 := by
  have h78 := h.2.1
  obtain ⟨n3, k3⟩ := h.fw hF (fun _ _ w => w.elim) (fun a k w => ⟨(r33_old a k w).1, (r33_old a k w).2.1, fun q => ((r33_old a k w).2.2 q).elim⟩)
  have o3 : OPN B y M3 := hO.fw h78 hF (fun _ _ w => w.elim) (fun a k w => ⟨by omega, fun q => by omega⟩)
  have hlt : ∀ i d, i < 3 → i ≠ t → mR M 33 i = some d → d < mn M := fun i d hi hne e => (hX.2 i d hi hne e).1.2.1.1
  refine ⟨n3, o3, k3, by rw [hF.i (by omega) (fun q => q)]; exact e3, ⟨fun i j d hi hj a b => ?_, fun i d hi hne e => ?_⟩, fun j d' hj hne e' => ?_, hF.up (fun _ _ w => w.elim) (fun a k w => Or.inr w), ?_⟩
  · rw [hr] at a b
    by_cases qi : i = t
    · by_cases qj : j = t
      · omega
      · rw [if_pos qi] at a
        rw [if_neg qj] at b
        cases a
        have := hlt j _ hj qj b
        omega
    · by_cases qj : j = t
      · rw [if_neg qi] at a
        rw [if_pos qj] at b
        cases b
        have := hlt i _ hi qi a
        omega
      · rw [if_neg qi] at a
        rw [if_neg qj] at b
        exact hX.1 i j d hi hj a b
  · rw [hr, if_neg hne] at e
    have hO' := hX.2 i d hi hne e
    have := hO'.1.1
    exact hO'.fw h78 hF (fun _ _ w => w.elim) (fun k q => by omega)
  · rw [hr, if_neg hne] at e'
    have := hlt j d' hj hne e'
    rw [MTC.e (fun k hk => hF.i this (fun q => q)) (hF.i (by omega) (fun q => q))]
    exact hno j d' hj e'
  · have pk := ptk_new ht hd hr
    unfold PMN
    generalize ptk M3 = u at pk ⊢
    generalize ptk M = v at pk ⊢
    omega
theorem c_ttN {B y g t : Nat} {M : Mem} (h : MID M) (hO : OPN B y M) (hg : g < 9331) (hy : y ≤ 999) (ht : t < 3) (hX : PTX t M) (hd : mR M 33 t = none) (e3 : mI M 32 3 = nI t) (hno : ∀ j d', j < 3 → mR M 33 j = some d' → ¬ MTC M d' (nI g) (nI y)) : TT (ttT 32 (nI g) (nI y) (NEW3 M t)) (TTQ B y g M) := by
  obtain ⟨v1, v2, v3, v4, v5⟩ := NEW3_v (M := M) (t := t) h.2.1
  generalize NEW3 M t = M3 at v1 v2 v3 v4 v5 ⊢
  obtain ⟨n3, o3, k3, e33, hX3, hno3, f3, p3⟩ := tbn_new h hO hX ht hd e3 hno v1 v2 v3 v4 v5
  refine (c_ttT n3 o3 hg hy ht e33 (by rw [v5, if_pos rfl]) v4 hX3 hno3).mono ?_
  rintro ⟨M4, dd⟩ ⟨Q, D, q1, q2, q3, q4⟩
  simp only at q1 q2 q3 q4
  subst q1
  exact ⟨t, Q, D, q2, by rw [q3, k3], Spc.tr f3 ((q4.fw).up v4.spc (fun _ _ w => w)), p3.tr (PMN.fr q4)⟩
noncomputable def ttK (a0 : Nat) (p1 p2 : Int32) (M39 : Mem) : Option (Mem × Nat) := Option.bind (mR M39 a0 2) (fun r66 => bv (nO M39 2 11) (fun M67 => Option.bind (mR M67 a0 0) (fun r72 => Option.bind (mR M67 a0 1) (fun r73 => Option.bind (f_X2_init M67 (mn M39) r72 r73) (fun q74 => grd (okO q74 18 r66) (grd (vp_in (mI M39 a0 3) (mL q74 r66)) (bv (wR q74 r66 (mI M39 a0 3).toNatClampNeg (some (mn M39))) (fun M82 => ttT a0 p1 p2 M82))))))))
theorem ttK_eq {M : Mem} (h : MID M) {t : Nat} (ht : t < 3) (e3 : mI M 32 3 = nI t) {p1 p2 : Int32} : ttK 32 p1 p2 M = ttT 32 p1 p2 (NEW3 M t) := by
  obtain ⟨l1, l2, l3, l4, l5, l6⟩ := okLP h
  have h78 := h.2.1
  have f := (Fw_nO (S := fun _ _ => False) (R := fun _ _ => False) (M := M) (c := 2) (n := 11))
  have hr0 : mR (nO M 2 11) 32 0 = some 1 := by
    rw [f.r (by omega) (fun q => q)]
    exact l2
  have hr1 : mR (nO M 2 11) 32 1 = some 21 := by
    rw [f.r (by omega) (fun q => q)]
    exact l3
  have fN := TBN_fw (S := fun _ _ => False) (R := fun _ _ => False) (M := M) (N := 9331)
  unfold ttK NEW3
  rw [l4, Option.bind_some]
  simp only [bv]
  rw [hr0, Option.bind_some, hr1, Option.bind_some, c_init2, Option.bind_some, e3, nclampI (by omega)]
  generalize TBN M 9331 = M2 at fN ⊢
  rw [grd_y (fN.ok l5), fN.l (show 33 < mn M by omega), l6, grd_y ((nvp (by omega)).mpr ht)]
theorem c_ttE {B y g : Nat} {M : Mem} (h : MID M) (hO : OPN B y M) (hg : g < 9331) (hy : y ≤ 999) (hP : PTH M) (hno : FST M 3 (nI g) (nI y)) : TT (ttE 32 (nI g) (nI y) M) (TTQ B y g M) := by
  obtain ⟨⟨t0, ht0, e0⟩, hP2⟩ := id hP
  have h78 := h.2.1
  unfold ttE
  rw [e0, nsucc, show (3 : Int32) = nI 3 from rfl, nrem (by omega) (by omega) (by omega), TT_bv]
  have ht : (t0 + 1) % 3 < 3 := Nat.mod_lt _ (by omega)
  generalize (t0 + 1) % 3 = t at ht
  have fr : Fr (fun a k => a = 32 ∧ k = 3) M (wI M 32 3 (nI t)) := Fr.rf.wI ⟨rfl, rfl⟩
  have e3 : mI (wI M 32 3 (nI t)) 32 3 = nI t := mI_wIs
  generalize wI M 32 3 (nI t) = M1 at fr e3
  have er : mR M1 = mR M := fr.2.2.2.2.1
  obtain ⟨n1, k1⟩ := h.fr fr (fun a k w => by unfold Frl; omega)
  have o1 : OPN B y M1 := hO.fw h78 (fr.fw (R := fun _ _ => False)) (fun a k w => ⟨by omega, by omega, by omega, by omega, fun q => by have := q.1; omega⟩) (fun _ _ w => w.elim)
  have hX : PTX t M1 := by
    refine ⟨fun i j d hi hj a b => hP.2.1 i j d hi hj (by rw [← er]; exact a) (by rw [← er]; exact b), fun i d hi _ e => ?_⟩
    rw [er] at e
    have hO' := hP.2.2 i d hi e
    have := hO'.1.1
    exact hO'.fw h78 (fr.fw (R := fun _ _ => False)) (fun a k w => ⟨by unfold Std; omega, by omega, by omega⟩) (fun _ q => q)
  have e113 : mI M1 1 13 = mI M 1 13 := fr.i (by omega)
  have hno1 : ∀ j d', j < 3 → mR M1 33 j = some d' → ¬ MTC M1 d' (nI g) (nI y) := fun j d' hj e' => by
    rw [er] at e'
    have := (hP.2.2 j d' hj e').1.1
    rw [MTC.e (fun k hk => fr.i (by omega)) e113]
    exact hno j d' hj e'
  obtain ⟨l1, l2, l3, l4, l5, l6⟩ := okLP n1
  have f0 : Fw (Spc M) Rpc M M1 := fr.fw.up (fun a k w => Or.inr (Or.inr (Or.inl w))) (fun _ _ w => w)
  have hKe := ttK_eq n1 ht e3 (p1 := nI g) (p2 := nI y)
  unfold ttK at hKe
  rw [l4, e3, Option.bind_some, nclampI (by omega)] at hKe
  rw [l4, Option.bind_some, grd_y l5, e3, l6, grd_y ((nvp (by omega)).mpr ht), nclampI (by omega)]
  cases hd : mR M1 33 t with
  | none =>
    rw [nc_none rfl, TT_bv, Option.bind_some, hKe]
    refine (c_ttN n1 o1 hg hy ht hX hd e3 hno1).mono ?_
    rintro q ⟨i, Q, D, a1, a2, a3, a4⟩
    exact ⟨i, Q, D, a1, by rw [a2, k1], Spc.tr f0 a3, (PMN.fr fr).tr a4⟩
  | some d =>
    rw [nc_some rfl, TT_bv]
    have hTB : TB M1 d := by
      have := (hP.2.2 t d ht (by rw [← er]; exact hd)).1
      exact this.fr fr
    refine (c_ttT n1 o1 hg hy ht e3 hd hTB hX (fun j d' hj _ e' => hno1 j d' hj e')).mono ?_
    rintro ⟨M4, dd⟩ ⟨Q, D, q1, q2, q3, q4⟩
    simp only at q1 q2 q3 q4
    subst q1
    exact ⟨t, Q, D, q2, by rw [q3, k1], Spc.tr f0 ((q4.fw).up hTB.spc (fun _ _ w => w)), (PMN.fr fr).tr (PMN.fr q4)⟩
theorem c_isOf2 {M : Mem} {d : Nat} (hT : TB M d) (h1 : okO M 10 1) {p1 p2 : Int32} : f_X2_isOf M d p1 p2 = some (if mI M d 7 = p1 ∧ mI M d 8 = p2 ∧ mI M d 9 = mI M 1 13 then 1 else 0) := by
  unfold f_X2_isOf
  rw [grd_y hT.2.1, hT.2.2.1, Option.bind_some, grd_y h1]
  by_cases a : mI M d 7 = p1
  · by_cases b : mI M d 8 = p2
    · by_cases c : mI M d 9 = mI M 1 13
      · rw [if_pos a, if_pos b, if_pos c, if_pos ⟨a, b, c⟩]
      · rw [if_pos a, if_pos b, if_neg c, if_neg (fun q => c q.2.2)]
    · rw [if_pos a, if_neg b, if_neg (fun q => b q.2.1)]
  · rw [if_neg a, if_neg (fun q => a q.1)]
theorem c_tt0 {M : Mem} (h : MID M) (hP : PTH M) {p1 p2 : Int32} : TT (loopO (tt0 32 p1 p2 M) 0) (fun z => (z = Sum.inl () ∧ FST M 3 p1 p2) ∨ ∃ i d, z = Sum.inr d ∧ i < 3 ∧ mR M 33 i = some d ∧ MTC M d p1 p2 ∧ FST M i p1 p2) := by
  obtain ⟨l1, l2, l3, l4, l5, l6⟩ := okLP h
  refine TT_for 3 (fun k s => s = nI k ∧ FST M k p1 p2) ?_ (Nat.zero_le _) ⟨rfl, fun j d hj => by omega⟩
  rintro k s hk ⟨rfl, hf⟩
  unfold tt0
  have c3 : ((3 : Int32) ≤ nI k) ↔ 3 ≤ k := by
    rw [show (3 : Int32) = nI 3 from rfl, nleI (by omega) (by omega)]
  by_cases w : k = 3
  · rw [if_pos (c3.mpr (by omega)), TT_some]
    exact Or.inl ⟨rfl, by rw [← w]; exact hf⟩
  · have hlt : k < 3 := by omega
    rw [if_neg (fun q => w (by have := c3.mp q; omega)), l4, Option.bind_some, grd_y l5, l6, grd_y ((nvp (by omega)).mpr hlt), nclampI (by omega)]
    cases hd : mR M 33 k with
    | none =>
      rw [nc_none rfl]
      show TT (some (Sum.inl (nI k + 1)) : Option (Int32 ⊕ (Unit ⊕ Nat))) _
      rw [TT_some]
      refine ⟨hlt, nsucc k, fun j d hj e => ?_⟩
      by_cases q : j = k
      · subst q
        rw [hd] at e
        cases e
      · exact hf j d (by omega) e
    | some d =>
      have hT := (hP.2.2 k d hlt hd).1
      rw [nc_some rfl, TT_bv, grd_y hT.2.1, c_isOf2 hT (okLV h).1, Option.bind_some]
      by_cases q : mI M d 7 = p1 ∧ mI M d 8 = p2 ∧ mI M d 9 = mI M 1 13
      · rw [if_pos q, if_neg (by decide), TT_some]
        exact Or.inr ⟨k, d, rfl, hlt, hd, q, hf⟩
      · rw [if_neg q, if_pos rfl]
        show TT (some (Sum.inl (nI k + 1)) : Option (Int32 ⊕ (Unit ⊕ Nat))) _
        rw [TT_some]
        refine ⟨hlt, nsucc k, fun j d' hj e => ?_⟩
        by_cases q2 : j = k
        · subst q2
          rw [hd] at e
          cases e
          exact q
        · exact hf j d' (by omega) e
theorem PTH.op {M M1 : Mem} (h : PTH M) (h78 : 78 ≤ mn M) {S : Nat → Nat → Prop} (hF : Fw S Rop M M1) (hs : ∀ a k, S a k → a < 78 ∧ ¬ (a = 1 ∧ k = 13) ∧ a ≠ 49 ∧ a ≠ 32) : PTH M1 := by
  have e3 : mI M1 32 3 = mI M 32 3 := hF.i (by omega) (fun q => (hs 32 3 q).2.2.2 rfl)
  have er : ∀ i, mR M1 33 i = mR M 33 i := fun i => hF.r (by omega) (fun q => by have := q.1; omega)
  refine ⟨by rw [e3]; exact h.1, fun i j d hi hj a b => h.2.1 i j d hi hj (by rw [← er]; exact a) (by rw [← er]; exact b), fun i d hi e => ?_⟩
  rw [er] at e
  have hO := h.2.2 i d hi e
  have := hO.1.1
  refine hO.fw h78 hF (fun a k w => ?_) (fun k q => by have := q.1; omega)
  obtain ⟨q1, q2, q3, q4⟩ := hs a k w
  exact ⟨by unfold Std; omega, q2, q3⟩
theorem c_tableTo {B y g : Nat} {M : Mem} (h : MID M) (hS : SCI B M) (hB : B < 16776000) (hy : y ≤ 999) (hg : g < 9331) (hP : PTH M) : TT (f_X4_tableTo M 32 (nI g) (nI y)) (TTQ (B + 1) y g M) := by
  obtain ⟨l1, l2, l3, l4, l5, l6⟩ := okLP h
  rw [tableTo_eq, grd_y l1, l3, Option.bind_some, grd_y (okLC h), TT_bind]
  refine (m_open h hS (by omega) hy).mono ?_
  rintro M1 ⟨n1, o1, k1, f1, nn1, z1⟩
  have h78 := h.2.1
  have hP1 := hP.op h78 f1 (fun a k w => by have := w.1; omega)
  have fw1 : Fw (Spc M) Rpc M M1 := f1.up (fun a k w => Or.inl w) (fun a k w => Or.inl w)
  have pm1 : PMN M M1 := by
    have er : ∀ i, mR M1 33 i = mR M 33 i := fun i => f1.r (by omega) (fun q => by have := q.1; omega)
    have : ptk M1 = ptk M := by
      unfold ptk
      rw [er, er, er]
    unfold PMN
    rw [this, nn1, z1]
    exact ⟨rfl, rfl⟩
  rw [TT_bind]
  refine (c_tt0 n1 hP1).mono ?_
  rintro z (⟨rfl, hno⟩ | ⟨i, d, rfl, hi, hd, ⟨q7, q8, q9⟩, hfst⟩)
  · show TT (ttE 32 (nI g) (nI y) M1) _
    refine (c_ttE n1 o1 hg hy hP1 hno).mono ?_
    rintro q ⟨i, Q, D, a1, a2, a3, a4⟩
    exact ⟨i, Q, D, a1, by rw [a2, k1], Spc.tr fw1 a3, pm1.tr a4⟩
  · show TT (some (M1, d)) _
    rw [TT_some]
    obtain ⟨hT, g', y', ru, r, b1', b2, b3, b4, b5, b6, b7, b8, b9⟩ := hP1.2.2 i d hi hd
    have eg : g' = g := (neqI (by omega) (by omega)).mp (b3.symm.trans q7)
    have ey : y' = y := (neqI (by omega) (by omega)).mp (b4.symm.trans q8)
    have err : r = ru := by
      refine (neqI (by omega) b8).mp ?_
      rw [← b5, ← b6]
      exact q9
    subst eg
    subst ey
    obtain ⟨Q, D, kk, c1, c2, c3, c4⟩ := b9 err
    exact ⟨i, Q, D, ⟨hi, hd, hP1, ⟨kk, n1, o1, rfl, hT, c1, c2, c3, c4⟩, ⟨q7, q8, q9⟩, hfst⟩, k1, fw1, pm1⟩
