/-! lines() on both sides -/
/-- what the Pedigree keeps, right or stale -/
def PLS (M : Mem) (t : Nat) : Prop := ∃ n mo yr di y, HSV M n mo yr di ∧ mI M 49 54 = nI y ∧ y ≤ 999 ∧ ((0 < pc t ∧ pc t ≤ 6) ∧ ∀ j v : Nat, (tl t 12)[j]? = some v → v < n) ∧ mI M 34 7 = nI (pc t) ∧ TLD2 M 35 (tl t 12) ∧ LNS (Wt (mI M 49) y di (tl t 12)) (pc t) M
def PDC (M : Mem) : Prop := ∃ t st sp, mI M 34 8 = nI t ∧ mI M 34 9 = nI st ∧ mI M 1 14 = nI sp ∧ t < 4096 ∧ st ≤ sp ∧ sp < 2147483648 ∧ (1 ≤ t → st = sp → PLS M t)
theorem LNS.e {W : Nat → Nat → Nat} {n : Nat} {M M1 : Mem} (h : LNS W n M) (e : ∀ a k, 34 ≤ a → a ≤ 41 → mI M1 a k = mI M a k) : LNS W n M1 := by
  obtain ⟨L, h1, h2, h3, h4, h5⟩ := h
  refine ⟨L, h1, h2, h3, by rw [e 34 10 (by omega) (by omega)]; exact h4, ?_⟩
  rcases h5 with ⟨q1, q2⟩ | ⟨q1, q2⟩
  · exact Or.inl ⟨q1, by rw [e 34 11 (by omega) (by omega)]; exact q2⟩
  · exact Or.inr ⟨q1, by rw [e 34 11 (by omega) (by omega)]; exact q2.1, fun c hc k hk => by rw [e 38 k (by omega) (by omega)]; exact q2.2 c hc k hk⟩
noncomputable def lnT (a0 : Nat) (p2 : Int32) (s18 : Mem) : Option (Mem × Int32) := Option.bind (mR s18 a0 7) (fun r22 => grd (okO s18 5 r22) (if (mI s18 r22 11) = 0 then (some (s18, (-1))) else (if 2 ≤ p2 then (Option.bind (mR s18 a0 7) (fun r24 => grd (okO s18 5 r24) (Option.bind (f_X5_bestMother s18 r24 (p2 - 2)) (fun q26 => some (s18, q26))))) else (if p2 = 0 then (Option.bind (mR s18 a0 7) (fun r31 => grd (okO s18 5 r31) (some (s18, mI s18 r31 10)))) else (Option.bind (mR s18 a0 7) (fun r29 => grd (okO s18 5 r29) (some (s18, mI s18 r29 11))))))))
theorem lines11 {M : Mem} {a0 : Nat} {p1 p2 : Int32} : f_X11_lines M a0 p1 p2 = grd (okO M 11 a0) (Option.bind (mR M a0 0) (fun r2 => grd (okO M 10 r2) (Option.bind (f_X10_toldOf M r2 p1) (fun q4 => Option.bind (f_J6_bitCount_0f7a4 q4) (fun q7 => if q7 = 0 then (some (M, (-1))) else (if 6 < q7 then (some (M, (-1))) else (if p2 < 0 then (some (M, (-1))) else (if p2 ≤ (1 + q7) then (Option.bind (mR M a0 7) (fun r10 => Option.bind (mR M a0 0) (fun r11 => grd (okO M 10 r11) (grd (okO M 5 r10) (Option.bind (f_X5_isOf M r10 q4 (mI M r11 14)) (fun q14 => bv (lnT a0 p2) (fun j17 => if q14 = 0 then (Option.bind (mR M a0 7) (fun r33 => Option.bind (mR M a0 0) (fun r34 => grd (okO M 10 r34) (grd (okO M 5 r33) (Option.bind (f_X5_take M r33 q4 (mI M r34 14)) (fun q37 => Option.bind (loopO (lc0 a0 q7) (q37, 0)) (fun (x49 : Mem) => Option.bind (mR x49 a0 7) (fun r95 => grd (okO x49 5 r95) (Option.bind (f_X5_search x49 r95) (fun q97 => j17 q97)))))))))) else (j17 M)))))))) else (some (M, (-1))))))))))) := rfl
/-- the class's answer -/
theorem c_lnT {M : Mem} (hm : MID M) {W : Nat → Nat → Nat} {L : List Nat} (hL0 : 0 < L.length) (hL6 : L.length ≤ 6) (h7 : mI M 34 7 = nI L.length) (hT : TLD2 M 35 L) (hN : LNS W L.length M) {M2 : Mem} {lst rows : Nat} (hR : RFI W L.length ((L.length + 1) ^ L.length) lst rows M2) {p2 : Int32} (hp : 0 ≤ p2 ∧ p2 ≤ 1 + nI L.length) : ∃ c, (1 ≤ rows → fg (GDL W L.length lst) ((L.length + 1) ^ L.length) = some c) ∧ lnT 0 p2 M = some (M, lnA L lst rows (mkC L.length c) p2) := by
  obtain ⟨o1, o2, o3, o4, o5, o6, o7⟩ := lay0 hm
  obtain ⟨l1, -⟩ := lyP hm.1.1
  obtain ⟨p1, p2', p3, p4, p5', p6, -⟩ := lyP2 hm.1.1
  have hs := lines_same hN hR
  have hrw : rows ≤ 117649 := by
    rcases hR.2 with z | ⟨_, z, _⟩
    · omega
    · rw [z]
      exact Nat.le_trans (cg_le _) (pow6 hL6 (Nat.le_refl _))
  unfold lnT
  rw [o5, Option.bind_some, grd_y o7]
  rcases hs with ⟨q1, q2⟩ | ⟨q1, q2, q3, q4, q5, c, q6, q7⟩
  · refine ⟨0, fun z => by omega, ?_⟩
    rw [q2, if_pos (show nI 0 = 0 from rfl)]
    unfold lnA
    rw [if_pos q1]
  · refine ⟨c, fun _ => q6, ?_⟩
    rw [q3, if_neg (show ¬ nI rows = 0 from fun q : nI rows = nI 0 => by have := (neqI (by omega) (by omega)).mp q; omega), Option.bind_some, grd_y o7, Option.bind_some, grd_y o7, Option.bind_some, grd_y o7, q4, q3]
    obtain ⟨kk, rfl, hkk⟩ := nat_of hp.1
    have h2 := (nleI (b := 1 + L.length) hkk (by omega)).mp (by rw [← nadd]; exact hp.2)
    unfold lnA
    rw [if_neg (show ¬ rows = 0 by omega)]
    by_cases w : 2 ≤ kk
    · have k0 : ¬ nI kk = 0 := fun q : nI kk = nI 0 => by have := (neqI hkk (by omega)).mp q; omega
      have k1 : ¬ nI kk = 1 := fun q : nI kk = nI 1 => by have := (neqI hkk (by omega)).mp q; omega
      have e2 : nI kk - 2 = nI (kk - 2) := by
        rw [show (2 : Int32) = nI 2 from rfl, nsub (by omega)]
      rw [if_pos (show (2 : Int32) ≤ nI kk from show nI 2 ≤ nI kk from (nleI (by omega) hkk).mpr w), if_neg k0, if_neg k1, e2, nclampI (by omega)]
      have e38 := (q7 (kk - 2) (by omega)).1
      unfold f_X5_bestMother
      rw [if_neg (ltz (by omega)), grd_y l1, h7, if_pos ((nltI (by omega) (by omega)).mpr (by omega)), p4, Option.bind_some, grd_y p5', p6, grd_y ((nvp (by omega)).mpr (by omega)), nclampI (by omega), e38]
      cases hmk : mkC L.length c (kk - 2) with
      | none =>
        rw [if_pos (show oI none = -1 from rfl), Option.bind_some]
      | some i =>
        have hi := mkC_lt hL0 hmk
        have hci := List.getElem?_eq_getElem hi
        rw [if_neg (show ¬ oI (some i) = -1 from neg1_nI (by omega)), Option.bind_some, grd_y p5', p6, grd_y ((nvp (by omega)).mpr (by omega)), e38, hmk, show oI (some i) = nI i from rfl, c_houseAt hm.1.1 hL6 h7 hT hci, Option.bind_some, Option.bind_some]
        simp only
        rw [List.getD_eq_getElem?_getD, hci]
        rfl
    · rw [if_neg (show ¬ (2 : Int32) ≤ nI kk from fun q : nI 2 ≤ nI kk => w ((nleI (by omega) hkk).mp q))]
      by_cases w0 : kk = 0
      · subst w0
        rw [if_pos (show nI 0 = 0 from rfl), if_pos (show nI 0 = 0 from rfl)]
      · have : kk = 1 := by omega
        subst this
        rw [if_neg (by decide), if_neg (by decide), if_pos (show nI 1 = 1 from rfl)]
theorem pc_pos {b : Nat} (h1 : 1 ≤ b) (hb : b < 4096) : 1 ≤ pc b := by
  have h : ∀ q, q < 64 → ∀ r, r < 64 → (1 ≤ 64 * q + r → 1 ≤ pc (64 * q + r)) := by decide +kernel
  have := h (b / 64) (by omega) (b % 64) (by omega)
  rw [show 64 * (b / 64) + b % 64 = b from by omega] at this
  exact this h1
theorem Wt_cg {K : Nat → Int32} {y : Nat} {di di' : Nat → List Nat} {L : List Nat} (h : ∀ j v : Nat, L[j]? = some v → di v = di' v) : Wt K y di L = Wt K y di' L := by
  funext i j
  unfold Wt
  by_cases w : i < L.length ∧ j < L.length
  · rw [if_pos w, if_pos w]
    have e1 : di (L.getD i 0) = di' (L.getD i 0) := by
      rw [List.getD_eq_getElem?_getD, List.getElem?_eq_getElem w.1]
      exact h i _ (List.getElem?_eq_getElem w.1)
    have e2 : di (L.getD j 0) = di' (L.getD j 0) := by
      rw [List.getD_eq_getElem?_getD, List.getElem?_eq_getElem w.2]
      exact h j _ (List.getElem?_eq_getElem w.2)
    rw [e1, e2]
  · rw [if_neg w, if_neg w]
theorem NXC.b42 {M M1 : Mem} (h : NXC M) (hb : B42 M M1) : NXC M1 := by
  obtain ⟨e, -, -, -, -, k1⟩ := hb
  rcases h with q | ⟨nb, ve', y', q1, q2, q3, q4, q5, q6, q7⟩
  · left
    rw [e 47 34 (by omega) (by omega)]
    exact q
  · right
    refine ⟨nb, ve', y', by rw [e 47 34 (by omega) (by omega)]; exact q1, by rw [e 47 1 (by omega) (by omega)]; exact q2, q3, q4, by rw [k1]; exact q5, q6, fun z p hp => ?_⟩
    obtain ⟨z1, z2⟩ := q7 z p hp
    rw [k1]
    exact ⟨by rw [e 64 p (by omega) (by omega)]; exact z1, fun i c hc => by rw [e 63 _ (by omega) (by omega)]; exact z2 i c hc⟩
/-- the class before it answers -/
def LCQ (M : Mem) (B b n y : Nat) (mo : Nat → Option Nat) (yr : Nat → Nat) (di : Nat → List Nat) (M1 : Mem) : Prop := MID M1 ∧ SCI (B + 40) M1 ∧ PTH M1 ∧ HSV M1 n mo yr di ∧ B42 M M1 ∧ mI M1 34 7 = nI (tl b 12).length ∧ TLD2 M1 35 (tl b 12) ∧ LNS (Wt (mI M 49) y di (tl b 12)) (tl b 12).length M1 ∧ PDC M1
theorem c_linesC {B y n b sp : Nat} {mo : Nat → Option Nat} {yr : Nat → Nat} {di : Nat → List Nat} {M : Mem} (hB : B + 40 < 16776000) (hy : y ≤ 999) (h54 : mI M 49 54 = nI y) (hb1 : 1 ≤ b) (hb : b < 2 ^ n) (hb4 : b < 4096) (hN0 : 0 < pc b) (hN6 : pc b ≤ 6) (hdl : ∀ g p e, g < 9331 → dst (mI M 49) y g p = some e → e < 9331) (m1 : MID M) (s1 : SCI B M) (hP : PTH M) (hD : PDC M) (hv : HSV M n mo yr di) (e14 : mI M 1 14 = nI sp) (hsp : sp < 2147483648) {p2 : Int32} (hp : 0 ≤ p2 ∧ p2 ≤ 1 + nI (pc b)) : ∃ M1, LCQ M B b n y mo yr di M1 ∧ f_X11_lines M 0 (nI b) p2 = lnT 0 p2 M1 := by
  have h78 := m1.2.1
  have hn := hv.1
  obtain ⟨o1, o2, o3, o4, o5, o6, o7⟩ := lay0 m1
  have k10 := (okLV m1).1
  have hlen : (tl b 12).length = pc b := tl_len b 12
  have htl : tl b 12 = tl b n := by
    have := tl_up hb (12 - n)
    rw [show n + (12 - n) = 12 from by omega] at this
    exact this
  have hLn : ∀ j v : Nat, (tl b 12)[j]? = some v → v < n := fun j v e => by
    rw [htl] at e
    exact (tl_v n j v e).1
  have hne : ¬ nI (pc b) = 0 := fun q : nI (pc b) = nI 0 => by have := (neqI (by omega) (by omega)).mp q; omega
  have start : f_X11_lines M 0 (nI b) p2 = Option.bind (f_X5_isOf M 34 (nI b) (nI sp)) (fun q14 => if q14 = 0 then (Option.bind (f_X5_take M 34 (nI b) (nI sp)) (fun q37 => Option.bind (loopO (lc0 0 (nI (pc b))) (q37, 0)) (fun (x49 : Mem) => Option.bind (mR x49 0 7) (fun r95 => grd (okO x49 5 r95) (Option.bind (f_X5_search x49 r95) (fun q97 => lnT 0 p2 q97)))))) else (lnT 0 p2 M)) := by
    rw [lines11, grd_y o1, o2, Option.bind_some, grd_y k10, c_toldOf m1.1.1 hn hv.2.2.1, if_pos (tld_y hn hb1 hb), Option.bind_some, bc_all hb4, Option.bind_some, if_neg hne, if_neg (show ¬ (6 : Int32) < nI (pc b) from fun q : nI 6 < nI (pc b) => by have := (nltI (by omega) (by omega)).mp q; omega), if_neg (fun q => by
      have h0 := hp.1
      rw [Int32.le_iff_toInt_le] at h0
      rw [Int32.lt_iff_toInt_lt] at q
      omega), if_pos hp.2, o5, Option.bind_some, Option.bind_some, grd_y k10, grd_y o7, e14]
    simp only [bv]
    rw [Option.bind_some, Option.bind_some, grd_y k10, grd_y o7, e14]
  rw [start]
  obtain ⟨l1, -⟩ := lyP m1.1.1
  have eo : f_X5_isOf M 34 (nI b) (nI sp) = some (if mI M 34 8 = nI b ∧ mI M 34 9 = nI sp then 1 else 0) := by
    unfold f_X5_isOf
    rw [grd_y l1]
    by_cases a : mI M 34 8 = nI b
    · by_cases b' : mI M 34 9 = nI sp
      · rw [if_pos a, if_pos b', if_pos ⟨a, b'⟩]
      · rw [if_pos a, if_neg b', if_neg (fun q => b' q.2)]
    · rw [if_neg a, if_neg (fun q => a q.1)]
  rw [eo, Option.bind_some]
  by_cases w : mI M 34 8 = nI b ∧ mI M 34 9 = nI sp
  · rw [if_pos w, if_neg (by decide)]
    refine ⟨M, ?_, rfl⟩
    obtain ⟨t, st, sp', c1, c2, c3, c4, c5, c6, c7⟩ := id hD
    have et : t = b := (neqI (by omega) (by omega)).mp (c1.symm.trans w.1)
    have es : sp' = sp := (neqI c6 hsp).mp (c3.symm.trans e14)
    have est : st = sp := (neqI (by omega) hsp).mp (c2.symm.trans w.2)
    subst et
    obtain ⟨n', mo', yr', di', y', h1, h2, h3, h4, h5, h6, h7⟩ := c7 hb1 (by omega)
    have ey : y' = y := (neqI (by omega) (by omega)).mp (h2.symm.trans h54)
    subst ey
    obtain ⟨en, ed⟩ := hv.un h1
    rw [← hlen] at h5 h7
    rw [← Wt_cg (di := di) (di' := di') (fun j v e => ed v (hLn j v e))] at h7
    exact ⟨m1, s1.mono (by omega), hP, hv, ⟨fun _ _ _ _ => rfl, fun _ _ => rfl, rfl, Fw.rf, PMX.rf, rfl⟩, h5, h6, h7, hD⟩
  · rw [if_neg w, if_pos rfl]
    obtain ⟨M2, e2, f2, v7, v8, v9, vT⟩ := c_take5 m1.1.1 hb4 (by omega) (v := nI sp)
    rw [e2, Option.bind_some]
    obtain ⟨n2, k2⟩ := m1.fr f2 (fun a k w => by unfold Stk5 at w; unfold Frl; omega)
    have hv2 : HSV M2 n mo yr di := hv.fr f2 (fun a k w => by unfold Stk5 at w; omega)
    have s2 : SCI B M2 := SCI.fr2 s1 h78 f2 (fun a k w => by unfold Stk5 at w; omega)
    have hP2 : PTH M2 := hP.fr h78 f2 (fun a k w => by unfold Stk5 at w; omega)
    have b2 : B42 M M2 := B42.fr f2 (fun a k w => by unfold Stk5 at w; omega)
    have h542 : mI M2 49 54 = nI y := by rw [k2]; exact h54
    obtain ⟨M3, e3, n3, s3, hP3, hv3, v73, vT3, b3, ⟨c8, c9⟩, hW3⟩ := c_lc0 (B := B) (L := tl b 12) (M := M2) (by omega) hy h542 (by omega) (by omega) hLn (by rw [k2]; exact hdl) (n := n) (mo := mo) (yr := yr) (di := di) ⟨n2, s2, hP2, hv2, v7, vT, ⟨fun _ _ _ _ => rfl, fun _ _ => rfl, rfl, Fw.rf, PMX.rf, rfl⟩, ⟨rfl, rfl⟩, fun i j _ _ h => by omega⟩
    rw [hlen] at e3
    rw [e3, Option.bind_some]
    obtain ⟨q1, q2, q3, q4, q5, q6, q7⟩ := lay0 n3
    rw [q5, Option.bind_some, grd_y q7]
    have hPW : PDW M3 (tl b 12).length (Wt (mI M 49) y di (tl b 12)) := ⟨v73, fun i j hi hj => by
      rw [← k2]
      refine hW3 i j hi hj ?_
      have : j * (tl b 12).length + (tl b 12).length ≤ (tl b 12).length * (tl b 12).length := by
        rw [← Nat.succ_mul]
        exact Nat.mul_le_mul_right _ (by omega)
      omega⟩
    obtain ⟨M4, e4, f4, hLN⟩ := c_search n3.1.1 (by omega) (by omega) hPW Wt_le
    rw [e4, Option.bind_some]
    have h783 := n3.2.1
    obtain ⟨n4, k4⟩ := n3.fr f4 (fun a k w => by unfold Sse at w; unfold Frl; omega)
    have b4 : B42 M3 M4 := B42.fr f4 (fun a k w => by unfold Sse at w; omega)
    have hv4 : HSV M4 n mo yr di := hv3.fr f4 (fun a k w => by unfold Sse at w; omega)
    have hsq : (tl b 12).length * (tl b 12).length ≤ 36 := Nat.mul_le_mul (show (tl b 12).length ≤ 6 by omega) (show (tl b 12).length ≤ 6 by omega)
    have bA := (b2.tr b3).tr b4
    have e7' : mI M4 34 7 = nI (tl b 12).length := by rw [f4.i (by unfold Sse; omega)]; exact v73
    have eT' : TLD2 M4 35 (tl b 12) := fun j v e => by rw [f4.i (by unfold Sse; omega)]; exact vT3 j v e
    refine ⟨M4, ⟨n4, (SCI.fr2 s3 h783 f4 (fun a k w => by unfold Sse at w; omega)).mono (by omega), hP3.fr h783 f4 (fun a k w => by unfold Sse at w; omega), hv4, bA, e7', eT', hLN, ⟨b, sp, sp, ?_, ?_, ?_, hb4, Nat.le_refl _, hsp, fun _ _ => ⟨n, mo, yr, di, y, hv4, by rw [bA.2.2.2.2.2]; exact h54, hy, ⟨⟨hN0, hN6⟩, hLn⟩, by rw [← hlen]; exact e7', eT', by rw [← hlen, bA.2.2.2.2.2]; exact hLN⟩⟩⟩, rfl⟩
    · rw [f4.i (by unfold Sse; omega), c8]
      exact v8
    · rw [f4.i (by unfold Sse; omega), c9]
      exact v9
    · rw [bA.2.2.2.1.i (by omega) (fun q => by have := spw_x _ _ q; omega)]
      exact e14
theorem SlinR.w {M M1 : Mem} (h : Fr SlinR M M1) : Fw (Spw M) Rpx M M1 := (h.fw (R := Rpx)).up (fun a k w => by
  rcases w with ((w | w | w | w) | w) | w
  · exact Or.inr (Or.inr (Or.inl w))
  · exact Or.inr (Or.inr (Or.inr (Or.inl (by omega))))
  · exact Or.inr (Or.inr (Or.inr (Or.inl (by omega))))
  · exact Or.inr (Or.inr (Or.inr (Or.inr (Or.inr (Or.inl w)))))
  · exact Or.inr (Or.inr (Or.inr (Or.inl (by omega))))
  · exact Or.inr (Or.inr (Or.inr (Or.inr (Or.inl (by omega)))))) (fun _ _ w => w)
theorem FSC.b42 {M M1 : Mem} (h : FSC M) (h78 : 78 ≤ mn M) (hb : B42 M M1) {n : Nat} {mo : Nat → Option Nat} {yr : Nat → Nat} {di : Nat → List Nat} (hv : HSV M n mo yr di) (hv1 : HSV M1 n mo yr di) : FSC M1 := by
  obtain ⟨-, e32, r32, fw, -, k1⟩ := hb
  obtain ⟨h0, t, st, sp, h1, h2, h3, h4, h5, h6, h7⟩ := h
  refine ⟨?_, t, st, sp, by rw [e32 5 (by omega)]; exact h1, by rw [e32 6 (by omega)]; exact h2, by rw [fw.i (by omega) (fun q => by have := spw_x _ _ q; omega)]; exact h3, h4, h5, h6, fun q1 q2 => ?_⟩
  · rcases h0 with q | ⟨rs, q1, q2, q3, q4⟩
    · exact Or.inl (by rw [r32]; exact q)
    · exact Or.inr ⟨rs, by rw [r32]; exact q1, q2, fw.ok q3, by rw [fw.l q3.1]; exact q4⟩
  · obtain ⟨n', mo', yr', di', y, g1, g2, g3, g4⟩ := h7 q1 q2
    obtain ⟨en, ed⟩ := g1.un hv
    subst en
    refine ⟨n', mo, yr, di, y, hv1, by rw [k1]; exact g2, g3, ?_⟩
    rw [k1, lsF_cg (smF_cg (T' := fun h p => dst (mI M 49) y (rank (di' h)) p) n' (fun h p hh => by rw [ed h hh]))]
    exact g4.e e32
theorem PDC.fr {S : Nat → Nat → Prop} {M M1 : Mem} (h : PDC M) (hF : Fr S M M1) (hs : ∀ a k, S a k → 42 ≤ a ∧ a ≠ 49 ∧ a < 78) : PDC M1 := by
  obtain ⟨t, st, sp, h1, h2, h3, h4, h5, h6, h7⟩ := h
  have e : ∀ a k, a < 42 → mI M1 a k = mI M a k := fun a k w => hF.i (fun q => by have := hs a k q; omega)
  have e49 : mI M1 49 = mI M 49 := funext (fun k => hF.i (fun q => by have := hs 49 k q; omega))
  refine ⟨t, st, sp, by rw [e 34 _ (by omega)]; exact h1, by rw [e 34 _ (by omega)]; exact h2, by rw [e 1 _ (by omega)]; exact h3, h4, h5, h6, fun q1 q2 => ?_⟩
  obtain ⟨n, mo, yr, di, y, g1, g2, g3, g4, g5, g6, g7⟩ := h7 q1 q2
  exact ⟨n, mo, yr, di, y, g1.fr hF (fun a k w => by have := hs a k w; omega), by rw [e49]; exact g2, g3, g4, by rw [e 34 _ (by omega)]; exact g5, fun j v ee => by rw [e 35 _ (by omega)]; exact g6 j v ee, by rw [e49]; exact g7.e (fun a k w1 w2 => e a k (by omega))⟩
def LCALL (c : Nat) (M : Mem) (f g : Mem → Option (Mem × Int32)) : Prop := ∃ M1 M2 x, f M = some (M1, x) ∧ g M1 = some (M2, x) ∧ PTQ c M M2 ∧ FSC M2 ∧ PDC M2
theorem both_lines {c : Nat} (hc : c < 600) {M : Mem} (h : INV0 c M) (hP : PTH M) (hN : NXC M) (hC : FSC M) (hD : PDC M) (p1 p2 : Int32) : LCALL c M (fun M => f_X11_lines M 0 p1 p2) (fun M => f_X12_lines M 47 p1 p2) := by
  obtain ⟨m1, s1⟩ := h.mid
  have h78 := m1.2.1
  obtain ⟨n, mo, yr, di, hv⟩ := h.1.hsv
  obtain ⟨hn, v1, v2, v3⟩ := id hv
  obtain ⟨o1, o2, o3, o4, o5, o6, o7⟩ := lay0 m1
  have l0 := (lyF m1.1.2.1).1
  have k10 := (okLV m1).1
  obtain ⟨y, hy, h54, e11⟩ := REL.mid h
  obtain ⟨ve, hv1, hve⟩ := h.2.1.2.2.2.2
  obtain ⟨sp, hsp1, hsp2, hsp3⟩ := h.2.1.2.2.2.1
  have same : ∀ {f g : Mem → Option (Mem × Int32)}, f M = some (M, -1) → g M = some (M, -1) → LCALL c M f g := fun hf hg => ⟨M, M, -1, hf, hg, PTQ.same h hP hN, hC, hD⟩
  rcases tld_or hn p1 with ⟨b, hb1, hb, rfl⟩ | w
  · have hb4 : b < 4096 := by have := (pw12 hn).2; omega
    have hN0 := pc_pos hb1 hb4
    have hp12 := pc_le b
    have hne : ¬ nI (pc b) = 0 := fun q : nI (pc b) = nI 0 => by have := (neqI (by omega) (by omega)).mp q; omega
    by_cases w6 : 6 < pc b
    · refine same ?_ ?_
      · show f_X11_lines M 0 _ _ = _
        rw [lines11, grd_y o1, o2, Option.bind_some, grd_y k10, c_toldOf m1.1.1 hn v2, if_pos (tld_y hn hb1 hb), Option.bind_some, bc_all hb4, Option.bind_some, if_neg hne, if_pos (show (6 : Int32) < nI (pc b) from show nI 6 < nI (pc b) from (nltI (by omega) (by omega)).mpr w6)]
      · show f_X12_lines M 47 _ _ = _
        rw [lines12, grd_y l0, r_areHouses m1.1.2.1 hn v1, if_pos (tld_y hn hb1 hb), Option.bind_some, if_neg (by decide), r_ones hb4, Option.bind_some, if_pos (show (6 : Int32) < nI (pc b) from show nI 6 < nI (pc b) from (nltI (by omega) (by omega)).mpr w6)]
    · have n6 : ¬ (6 : Int32) < nI (pc b) := fun q : nI 6 < nI (pc b) => w6 ((nltI (by omega) (by omega)).mp q)
      by_cases wp : 0 ≤ p2 ∧ p2 ≤ 1 + nI (pc b)
      · have hdl : ∀ g p e, g < 9331 → dst (mI M 49) y g p = some e → e < 9331 := fun g p e hg he => dst_bd m1 hN hy h54 hv1 (by omega) hg he
        obtain ⟨M1, ⟨n1, s1', hP1, hvM, hB, h7, hT, hLN, hD1⟩, hf⟩ := c_linesC (B := 300 * c) (by omega) hy h54 hb1 hb hb4 hN0 (by omega) hdl m1 s1 hP hD hv hsp1 (by omega) wp
        have k1 : mI M1 49 = mI M 49 := hB.2.2.2.2.2
        have hlen : (tl b 12).length = pc b := tl_len b 12
        have htl : tl b 12 = tl b n := by
          have := tl_up hb (12 - n)
          rw [show n + (12 - n) = 12 from by omega] at this
          exact this
        obtain ⟨⟨M2, z⟩, hg, f2, x2, M3, lst, rows, hR, hz⟩ := r_lines n1 (hN.b42 hB) hy (by rw [k1]; exact h54) (by rw [hB.1 47 1 (by omega) (by omega)]; exact hv1) (by omega) hvM hb1 hb hb4 (by rw [← htl]; exact hlen) hN0 (by omega) wp (by rw [k1]; exact hdl)
        simp only at f2 x2 hz
        rw [k1, ← htl, ← hlen] at hR hz
        obtain ⟨cc, hcc, hans⟩ := c_lnT n1 (by omega) (by omega) h7 hT hLN hR (by rw [hlen]; exact wp)
        have ez := hz cc hcc
        rw [hans, ← ez] at hf
        have n1x := n1.2.1
        have k2 : mI M2 49 = mI M1 49 := funext (fun k => f2.i (by unfold SlinR Sms Snx Srv; omega))
        refine ⟨M1, M2, z, hf, hg, PTQ.mk h (Spw.tr hB.2.2.2.1 (SlinR.w f2)) ?_ ?_ x2 (hB.2.2.2.2.1.tr (PMX.fr f2)) (by rw [k2, k1]), ?_, ?_⟩
        · refine (SCI.fr2 s1' n1x f2 (fun a k w => ?_)).mono (by omega)
          unfold SlinR Sms Snx Srv at w
          omega
        · refine hP1.fr n1x f2 (fun a k w => ?_)
          unfold SlinR Sms Snx Srv at w
          omega
        · exact (hC.b42 h78 hB hv hvM).fr f2 (fun a k w => by unfold SlinR Sms Snx Srv at w; omega)
        · exact hD1.fr f2 (fun a k w => by unfold SlinR Sms Snx Srv at w; omega)
      · refine same ?_ ?_
        · show f_X11_lines M 0 _ _ = _
          rw [lines11, grd_y o1, o2, Option.bind_some, grd_y k10, c_toldOf m1.1.1 hn v2, if_pos (tld_y hn hb1 hb), Option.bind_some, bc_all hb4, Option.bind_some, if_neg hne, if_neg n6]
          by_cases w0 : p2 < 0
          · rw [if_pos w0]
          · rw [if_neg w0, if_neg (fun q => wp ⟨?_, q⟩)]
            rw [Int32.lt_iff_toInt_lt] at w0
            rw [Int32.le_iff_toInt_le]
            omega
        · show f_X12_lines M 47 _ _ = _
          rw [lines12, grd_y l0, r_areHouses m1.1.2.1 hn v1, if_pos (tld_y hn hb1 hb), Option.bind_some, if_neg (by decide), r_ones hb4, Option.bind_some, if_neg n6, Option.bind_some, lies_bind, if_neg wp]
  · refine same ?_ ?_
    · show f_X11_lines M 0 _ _ = _
      rw [lines11, grd_y o1, o2, Option.bind_some, grd_y k10, c_toldOf m1.1.1 hn v2, if_neg w, Option.bind_some, show f_J6_bitCount_0f7a4 0 = some 0 from by decide, Option.bind_some, if_pos rfl]
    · show f_X12_lines M 47 _ _ = _
      rw [lines12, grd_y l0, r_areHouses m1.1.2.1 hn v1, if_neg w, Option.bind_some, if_pos rfl]
