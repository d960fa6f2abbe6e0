theorem fact_in {M : Mem} (hM : LayM M) {n : Nat} {mo : Nat → Option Nat} {yr : Nat → Nat} {di : Nat → List Nat} (hv : HSV M n mo yr di) {v : Nat} (h : v < n) : f_X12_fact M 47 (nI v) 2 = some (nI (num (di v))) := r_di hM hv h
def S71 (a _k : Nat) : Prop := a = 71
/-- the rows ahead of a are told, and in row a those ahead of b -/
def APX (M : Mem) (N : Nat) (W : Nat → Nat → Nat) (a b : Nat) : Prop := ∀ i j, i < N → j < N → (i < a ∨ (i = a ∧ j < b)) → mI M 71 (6 * i + j) = nI (W i j)
theorem r_rl2 {M : Mem} (hM : LayM M) {K : Nat → Int32} {y n : Nat} {mo : Nat → Option Nat} {yr : Nat → Nat} {di : Nat → List Nat} (hv : HSV M n mo yr di) {L : List Nat} (hL : L.length ≤ 6) (hLn : ∀ j v : Nat, L[j]? = some v → v < n) (hT : TLD2 M 70 L) {a u : Nat} (ha : L[a]? = some u) {D : Nat → Option Nat} (hD : ∀ p, p < 9331 → mI M 65 p = fI (D p)) (hDd : ∀ p, D p = dst K y p (rank (di u))) (hb : ∀ g e, dst K y g (rank (di u)) = some e → e < 9331) (hA : APX M L.length (Wt K y di L) a 0) : TT (loopO (rl2 47 (nI L.length) (nI a)) (M, 0)) (fun M1 => Fr S71 M M1 ∧ APX M1 L.length (Wt K y di L) (a + 1) 0) := by
  have hal := (List.getElem?_eq_some_iff.mp ha).1
  refine TT_for L.length (fun b s => ∃ M', s = (M', nI b) ∧ Fr S71 M M' ∧ APX M' L.length (Wt K y di L) a b) ?_ (Nat.zero_le _) ⟨M, rfl, Fr.rf, hA⟩
  rintro b s hbl ⟨M', rfl, hF, hA'⟩
  have hM' := hM.fr hF
  obtain ⟨p1, p2, p3, p4, p5', p6⟩ := ly70 hM'
  obtain ⟨l0, l1, l2, l3, -⟩ := lyF hM'
  have hv' := hv.frR hF (fun a k w => by unfold S71 at w; omega)
  unfold rl2
  simp only
  by_cases w : b = L.length
  · rw [if_pos ((nleI (by omega) (by omega)).mpr (by omega)), TT_some]
    refine ⟨hF, fun i j hi hj h => ?_⟩
    exact hA' i j hi hj (by omega)
  · have hlt : b < L.length := by omega
    have hc := List.getElem?_eq_getElem hlt
    generalize L[b] = v at hc
    have hvn := hLn b v hc
    obtain ⟨-, -, g3, -⟩ := hv.2.2.2 v hvn
    have hr := rank_lt g3
    have e70 : mI M' 70 b = nI v := by rw [hF.i (by unfold S71; omega)]; exact hT b v hc
    have e65 : mI M' 65 (rank (di v)) = nI (Wt K y di L a b) := by
      rw [hF.i (by unfold S71; omega), hD _ hr, fN_I, hDd, Wt_v ha hc (fun e he => hb _ e he)]
    rw [if_neg (fun q => w (by have := (nleI (by omega) (by omega)).mp q; omega)), p4, Option.bind_some, l1, Option.bind_some, p1, Option.bind_some, grd_y p2, p3, grd_y ((nvp (by omega)).mpr (by omega)), nclampI (a := b) (by omega), e70, fact_in hM' hv' hvn, Option.bind_some, p_placeOf g3, Option.bind_some, grd_y l2, l3, grd_y ((nvp (by omega)).mpr hr), grd_y p5', p6, show (6 : Int32) * nI a = nI (6 * a) from nmul 6 a, nadd, grd_y ((nvp (by omega)).mpr (by omega)), nclampI (by omega), nclampI (by omega), e65, TT_bv, TT_bv, TT_some]
    refine ⟨hlt, _, by rw [nsucc], hF.wI rfl, fun i j hi hj h => ?_⟩
    rw [mI_wI]
    by_cases z : 6 * i + j = 6 * a + b
    · rw [if_pos ⟨rfl, z⟩, show i = a from by omega, show j = b from by omega]
    · rw [if_neg (fun q => z q.2)]
      exact hA' i j hi hj (by omega)
def SlinR (a k : Nat) : Prop := Sms a k ∨ a = 70 ∨ a = 71 ∨ a = 72 ∨ a = 73
theorem r_rl1 {M : Mem} {y ve n : Nat} {mo : Nat → Option Nat} {yr : Nat → Nat} {di : Nat → List Nat} (hm : MID M) (hx : NXC M) (hy : y ≤ 999) (h54 : mI M 49 54 = nI y) (hv1 : mI M 47 1 = nI ve) (hve : ve < 2147483648) (hv : HSV M n mo yr di) {L : List Nat} (hL : L.length ≤ 6) (hLn : ∀ j v : Nat, L[j]? = some v → v < n) (hT : TLD2 M 70 L) (hb : ∀ g p e, g < 9331 → dst (mI M 49) y g p = some e → e < 9331) : TT (loopO (rl1 47 (nI L.length)) (M, 0)) (fun M1 => Fr SlinR M M1 ∧ MID M1 ∧ NXC M1 ∧ TLD2 M1 70 L ∧ APW M1 L.length (Wt (mI M 49) y di L)) := by
  refine TT_for L.length (fun a s => ∃ M', s = (M', nI a) ∧ Fr SlinR M M' ∧ MID M' ∧ mI M' 49 = mI M 49 ∧ NXC M' ∧ TLD2 M' 70 L ∧ APX M' L.length (Wt (mI M 49) y di L) a 0) ?_ (Nat.zero_le _) ⟨M, rfl, Fr.rf, hm, rfl, hx, hT, fun i j hi hj h => by omega⟩
  rintro a s hal ⟨M', rfl, hF, m', k', x', t', A'⟩
  have hM' := m'.1.2.1
  obtain ⟨p1, p2, p3, p4, p5', p6⟩ := ly70 hM'
  have hv' := hv.frR hF (fun a k w => by unfold SlinR Sms Snx Srv at w; omega)
  unfold rl1
  simp only
  by_cases w : a = L.length
  · rw [if_pos ((nleI (by omega) (by omega)).mpr (by omega)), TT_some]
    exact ⟨hF, m', x', t', fun i j hi hj => A' i j hi hj (by omega)⟩
  · have hlt : a < L.length := by omega
    have hc := List.getElem?_eq_getElem hlt
    generalize L[a] = u at hc
    have hun := hLn a u hc
    obtain ⟨-, -, g3, -⟩ := hv.2.2.2 u hun
    have hr := rank_lt g3
    rw [if_neg (fun q => w (by have := (nleI (by omega) (by omega)).mp q; omega)), p1, Option.bind_some, grd_y p2, p3, grd_y ((nvp (by omega)).mpr (by omega)), nclampI (a := a) (by omega), t' a u hc, fact_in hM' hv' hun, Option.bind_some, p_placeOf g3, Option.bind_some, TT_bind]
    refine (r_measures m' x' hy (by rw [k']; exact h54) (by rw [hF.i (by unfold SlinR Sms Snx Srv; omega)]; exact hv1) hve hr).mono ?_
    rintro M2 ⟨f2, m2, k2, x2, -, D, d1, d2, d3⟩
    have t2 : TLD2 M2 70 L := fun j v e => by rw [f2.i (by unfold Sms Snx Srv; omega)]; exact t' j v e
    have hv2 := hv'.frR f2 (fun a k w => by unfold Sms Snx Srv at w; omega)
    rw [k'] at d3
    have hDd : ∀ p, D p = dst (mI M 49) y p (rank (di u)) := fun p => opt_iff (fun e => by rw [d3, dst_iff, isD_rk])
    have A2 : APX M2 L.length (Wt (mI M 49) y di L) a 0 := fun i j hi hj h => by rw [f2.i (by unfold Sms Snx Srv; omega)]; exact A' i j hi hj h
    rw [TT_bind]
    refine (r_rl2 (K := mI M 49) m2.1.2.1 hv2 hL hLn t2 hc d1 hDd (fun g e he => ?_) A2).mono ?_
    · have := (hDd g).symm ▸ he
      exact d2 g e this
    · rintro M3 ⟨f3, A3⟩
      obtain ⟨m3, k3⟩ := m2.fr f3 (fun a k w => by unfold S71 at w; unfold Frl; omega)
      rw [TT_bv, TT_some]
      refine ⟨hlt, M3, by rw [nsucc], (hF.tr (f2.up (fun a k w => Or.inl w))).tr (f3.up (fun a k w => Or.inr (Or.inr (Or.inl w)))), m3, by rw [k3, k2, k'], x2.e f3 (fun a k w => by unfold S71 at w; omega), fun j v e => by rw [f3.i (by unfold S71; omega)]; exact t2 j v e, A3⟩
/-- what lines() answers -/
noncomputable def lnA (L : List Nat) (lst rows : Nat) (m : Nat → Option Nat) (p2 : Int32) : Int32 := if rows = 0 then -1 else if p2 = 0 then nI lst else if p2 = 1 then nI rows else match m (p2 - 2).toNatClampNeg with
  | none => 100
  | some i => nI (L.getD i 0)
theorem r_lines {M : Mem} {y ve n b : Nat} {mo : Nat → Option Nat} {yr : Nat → Nat} {di : Nat → List Nat} (hm : MID M) (hx : NXC M) (hy : y ≤ 999) (h54 : mI M 49 54 = nI y) (hv1 : mI M 47 1 = nI ve) (hve : ve < 2147483648) (hv : HSV M n mo yr di) (hb1 : 1 ≤ b) (hb : b < 2 ^ n) (hb4 : b < 4096) (hN : (tl b n).length = pc b) (hN0 : 0 < pc b) (hN6 : pc b ≤ 6) {p2 : Int32} (hp : 0 ≤ p2 ∧ p2 ≤ 1 + nI (pc b)) (hbd : ∀ g p e, g < 9331 → dst (mI M 49) y g p = some e → e < 9331) : TT (f_X12_lines M 47 (nI b) p2) (fun q => Fr SlinR M q.1 ∧ NXC q.1 ∧ ∃ M3 lst rows, RFI (Wt (mI M 49) y di (tl b n)) (pc b) ((pc b + 1) ^ (pc b)) lst rows M3 ∧ ∀ c, (1 ≤ rows → fg (GDL (Wt (mI M 49) y di (tl b n)) (pc b) lst) ((pc b + 1) ^ (pc b)) = some c) → q.2 = lnA (tl b n) lst rows (mkC (pc b) c) p2) := by
  have hM := hm.1.2.1
  have hn := hv.1
  rw [lines12, grd_y (lyF hM).1, r_areHouses hM hn hv.2.1, if_pos (tld_y hn hb1 hb), Option.bind_some, if_neg (by decide), r_ones hb4, Option.bind_some, if_neg (show ¬ (6 : Int32) < nI (pc b) from fun q : nI 6 < nI (pc b) => by have := (nltI (by omega) (by omega)).mp q; omega), Option.bind_some, lies_bind, if_pos hp, TT_bind]
  refine (r_rl0 hM hn hv.2.1 hb4 (by omega)).mono ?_
  rintro z ⟨M1, rfl, f1, t1⟩
  obtain ⟨m1, k1⟩ := hm.fr f1 (fun a k w => by unfold S70 at w; unfold Frl; omega)
  have hv1' := hv.frR f1 (fun a k w => by unfold S70 at w; omega)
  have x1 := hx.e f1 (fun a k w => by unfold S70 at w; omega)
  simp only
  rw [TT_bind]
  refine (r_rl1 m1 x1 hy (by rw [k1]; exact h54) (by rw [f1.i (by unfold S70; omega)]; exact hv1) hve hv1' (L := tl b n) (by omega) (fun j v e => (tl_v n j v e).1) t1 (by rw [k1]; exact hbd)).mono ?_
  rintro M2 ⟨f2, m2, x2, t2, A2⟩
  rw [k1] at A2
  rw [hN] at A2 ⊢
  rw [TT_bind]
  refine (r_rl3 hN6).mono ?_
  rintro z rfl
  rw [TT_bind]
  refine (r_rl4 m2.1.2.1 hN0 hN6 A2 Wt_le).mono ?_
  rintro z ⟨M3, lst, rows, rfl, hrw, hlb, f3, hR⟩
  have fA : Fr SlinR M M3 := ((f1.up (fun a k w => Or.inr (Or.inl w))).tr f2).tr (f3.up (fun a k w => by
    rcases w with w | w
    · exact Or.inr (Or.inr (Or.inr (Or.inl w)))
    · exact Or.inr (Or.inr (Or.inr (Or.inr w)))))
  have xA : NXC M3 := x2.e f3 (fun a k w => by unfold S723 at w; omega)
  have hM3 := m2.1.2.1.fr f3
  obtain ⟨p1, p2', p3, -⟩ := ly70 hM3
  obtain ⟨-, -, -, l4, l5, l6⟩ := ly72 hM3
  have t3 : TLD2 M3 70 (tl b n) := fun j v e => by rw [f3.i (by unfold S723; omega)]; exact t2 j v e
  simp only
  by_cases w : rows = 0
  · rw [if_pos (by rw [w]; rfl), TT_some]
    refine ⟨fA, xA, M3, lst, rows, hR, fun c _ => ?_⟩
    unfold lnA
    rw [if_pos w]
  · rw [if_neg (show ¬ nI rows = 0 from fun q : nI rows = nI 0 => w ((neqI (by omega) (by omega)).mp q))]
    by_cases w0 : p2 = 0
    · rw [if_pos w0, TT_some]
      refine ⟨fA, xA, M3, lst, rows, hR, fun c _ => ?_⟩
      unfold lnA
      rw [if_neg w, if_pos w0]
    · rw [if_neg w0]
      by_cases w1 : p2 = 1
      · rw [if_pos w1, TT_some]
        refine ⟨fA, xA, M3, lst, rows, hR, fun c _ => ?_⟩
        unfold lnA
        rw [if_neg w, if_neg w0, if_pos w1]
      · obtain ⟨kk, rfl, hkk⟩ := nat_of hp.1
        have h2 := (nleI (b := 1 + pc b) hkk (by omega)).mp (by rw [← nadd]; exact hp.2)
        have k0 : kk ≠ 0 := fun q => w0 (by rw [q]; rfl)
        have k1' : kk ≠ 1 := fun q => w1 (by rw [q]; rfl)
        have e2 : nI kk - 2 = nI (kk - 2) := by
          rw [show (2 : Int32) = nI 2 from rfl, nsub (by omega)]
        obtain ⟨c, hc⟩ : ∃ c, fg (GDL (Wt (mI M 49) y di (tl b n)) (pc b) lst) ((pc b + 1) ^ (pc b)) = some c := by
          rcases hR.2 with z | ⟨z1, z2, z3, z4⟩
          · omega
          · cases hf : fg (GDL (Wt (mI M 49) y di (tl b n)) (pc b) lst) ((pc b + 1) ^ (pc b)) with
            | none =>
              have := (fg_0 _).mpr hf
              omega
            | some c => exact ⟨c, rfl⟩
        have e73 : mI M3 73 (kk - 2) = oI (mkC (pc b) c (kk - 2)) := by
          rcases hR.2 with z | ⟨z1, z2, z3, z4⟩
          · omega
          · exact z4 c hc _ (by omega)
        rw [if_neg w1, l4, Option.bind_some, grd_y l5, l6, e2, grd_y ((nvp (by omega)).mpr (by omega)), nclampI (by omega), e73]
        have ans : ∀ x, x = lnA (tl b n) lst rows (mkC (pc b) c) (nI kk) → TT (some (M3, x)) (fun q => Fr SlinR M q.1 ∧ NXC q.1 ∧ ∃ M3 lst rows, RFI (Wt (mI M 49) y di (tl b n)) (pc b) ((pc b + 1) ^ (pc b)) lst rows M3 ∧ ∀ c, (1 ≤ rows → fg (GDL (Wt (mI M 49) y di (tl b n)) (pc b) lst) ((pc b + 1) ^ (pc b)) = some c) → q.2 = lnA (tl b n) lst rows (mkC (pc b) c) (nI kk)) := fun x hx => by
          rw [TT_some]
          refine ⟨fA, xA, M3, lst, rows, hR, fun c' hc' => ?_⟩
          have := hc' (by omega)
          rw [hc] at this
          cases this
          exact hx
        have hA : lnA (tl b n) lst rows (mkC (pc b) c) (nI kk) = match mkC (pc b) c (kk - 2) with
          | none => 100
          | some i => nI ((tl b n).getD i 0) := by
          unfold lnA
          rw [if_neg w, if_neg w0, if_neg w1, e2, nclampI (by omega)]
        cases hmk : mkC (pc b) c (kk - 2) with
        | none =>
          rw [if_pos (show oI none = -1 from rfl)]
          exact ans 100 (by rw [hA, hmk])
        | some i =>
          have hi := mkC_lt hN0 hmk
          have hil : i < (tl b n).length := by omega
          have hci := List.getElem?_eq_getElem hil
          rw [if_neg (show ¬ oI (some i) = -1 from neg1_nI (by omega)), p1, Option.bind_some, Option.bind_some, grd_y l5, l6, grd_y ((nvp (by omega)).mpr (by omega)), grd_y p2', p3, e73, hmk, show oI (some i) = nI i from rfl, grd_y ((nvp (by omega)).mpr (by omega)), nclampI (by omega), t3 i _ hci]
          refine ans _ ?_
          rw [hA, hmk]
          simp only
          rw [List.getD_eq_getElem?_getD, hci]
          rfl
