/-! ORDERS: the class runs one CLAUSE once -/
theorem ii_year {v : Int} (h : S32 v) : (0 ≤ ii v ∧ ii v ≤ 999) ↔ (0 ≤ v ∧ v ≤ 999) := by
  by_cases q : v = 2147483648
  · subst q
    constructor
    · intro w
      exact absurd w (by decide)
    · intro w
      omega
  · have hr : R32 v := ⟨h.1, by have := h.2; omega⟩
    rw [show (0 : Int32) = ii 0 from rfl, show (999 : Int32) = ii 999 from rfl, ii_le ⟨by omega, by omega⟩ hr, ii_le hr ⟨by omega, by omega⟩]
theorem SCI.fwH {S R : Nat → Nat → Prop} {B : Nat} {M M1 : Mem} (h : SCI B M) (h78 : 78 ≤ mn M) (hF : Fw S R M M1) (hs : ∀ a k, S a k → ¬ (a = 1 ∧ (k = 12 ∨ k = 13)) ∧ a ≠ 2 ∧ a ≠ 3 ∧ a ≠ 21 ∧ a ≠ 25 ∧ a ≠ 49 ∧ ¬ HT M a) (hr : ∀ a k, R a k → ¬ (a = 21 ∧ k = 3) ∧ (78 ≤ a → mK M a ≠ 9)) : SCI B M1 := h.nt (fun a k w => hF.i (by omega) (fun q => by have := hs a k q; omega)) (hF.r (by omega) (fun q => (hr _ _ q).1 ⟨rfl, rfl⟩)) (fun c a w => hF.ok w) (fun tx sms t => t.fw hF (fun k => ⟨fun q => (hs _ _ q).2.2.2.2.2.2 t.ht.1, fun q => (hs _ _ q).2.2.2.2.2.2 t.ht.2.1, fun q => (hs _ _ q).2.2.2.2.2.2 t.ht.2.2⟩) (fun k q => (hr tx k q).2 t.ht.1.1 t.ok.2))
/-- the text that was read -/
def DTX (M : Mem) (cls : List CL) (code : List Nat) : Prop := mI M 15 2 = nI cls.length ∧ cls.length ≤ 12 ∧ code.length ≤ 400 ∧ (∀ v, v ∈ code → v < 2147483648) ∧ TXT M 0 0 cls code
theorem DTX.fw {S R : Nat → Nat → Prop} {M M1 : Mem} {cls : List CL} {code : List Nat} (h : DTX M cls code) (h78 : 78 ≤ mn M) (hF : Fw S R M M1) (hs : ∀ a k, S a k → a ≠ 15 ∧ a ≠ 16 ∧ a ≠ 17) : DTX M1 cls code := by
  obtain ⟨h1, h2, h3, h4, h5, h6⟩ := h
  have e : ∀ a k, a = 15 ∨ a = 16 ∨ a = 17 → mI M1 a k = mI M a k := fun a k w => hF.i (by omega) (fun q => by have := hs a k q; omega)
  refine ⟨by rw [e 15 2 (by omega)]; exact h1, h2, h3, h4, fun i cl hc f hf => ?_, fun i v hv => ?_⟩
  · rw [e 16 _ (by omega)]
    exact h5 i cl hc f hf
  · rw [e 17 _ (by omega)]
    exact h6 i v hv
theorem c_told15 {M : Mem} (hC : LayC M) {cls : List CL} {code : List Nat} (h : DTX M cls code) {i f : Nat} {cl : CL} (hc : cls[i]? = some cl) (hf : f < 6) : f_X9_told M 15 (nI i) (nI f) = some (clF cl f) := by
  obtain ⟨-, h2, -, -, h5, -⟩ := h
  have hi : i < cls.length := (List.getElem?_eq_some_iff.mp hc).1
  have l : okO M 9 15 ∧ mR M 15 0 = some 16 ∧ okO M 14 16 ∧ mL M 16 = 72 := by
    unfold LayC at hC
    simp only [hC, and_self]
  obtain ⟨g1, g2, g6, g7⟩ := l
  have e := h5 i cl hc f hf
  rw [Nat.zero_add] at e
  unfold f_X9_told
  simp only [bv, g2, Option.bind_some]
  rw [show (6 : Int32) = nI 6 from rfl, nmul, nadd, if_neg (show ¬ nI (i * 6 + f) < 0 by rw [show (0 : Int32) = nI 0 from rfl, nltI (by omega) (by omega)]; omega), grd_y g1, grd_y g6, if_neg (by rw [nleI (by omega) (by omega)]; omega), grd_y g6, grd_y ((nvp (by omega)).mpr (by omega)), nclampI (by omega), e]
theorem cdv_all {code : List Nat} {o : Option Nat} {val : (Nat → Int32) → Option Int} (h : ∀ C L, CodeAt C L 0 code → CDV C L o val) : ∃ u, o = some u ∧ u < 1000 ∧ VB val ∧ ∀ C L W, CodeAt C L 0 code → RUN C L (tI W) u [] (val W) := by
  have h0 : CodeAt (cdF code) code.length 0 code := fun i v hv => by
    have hi := (List.getElem?_eq_some_iff.mp hv).1
    rw [Nat.zero_add]
    refine ⟨?_, hi⟩
    unfold cdF
    rw [List.getD_eq_getElem?_getD, hv]
    rfl
  obtain ⟨u, u1, u2, u3, u4⟩ := h _ _ h0
  refine ⟨u, u1, u2, u3, fun C L W hC => ?_⟩
  obtain ⟨u', v1, v2, v3, v4⟩ := h C L hC
  rw [u1] at v1
  cases v1
  exact v4 W
theorem c_run18 {M : Mem} (hru : RUL M) {cls : List CL} {code : List Nat} (hd : DTX M cls code) {W : Nat → Int32} (hW : ∀ k, k < 88 → mI M 19 k = W k) {u : Nat} {r : Option Int} (hu : u < 1000) (hr : ∀ C L, CodeAt C L 0 code → RUN C L (tI W) u [] r) : TT (f_X3_run M 18 17 (nI u)) (fun q => Fr (Ssk 20) M q.1 ∧ q.2 = jO r) := by
  obtain ⟨hC, hM, kt, kl, vt, -⟩ := hru
  obtain ⟨d1, d2, d3, d4, d5, d6⟩ := hd
  have l : okO M 3 18 ∧ mR M 18 0 = some 19 ∧ mR M 18 1 = some 20 ∧ okO M 14 19 ∧ mL M 19 = 88 ∧ okO M 15 20 ∧ mL M 20 = 64 ∧ okO M 14 2 ∧ mL M 2 = 6 ∧ okO M 14 17 ∧ mL M 17 = 800 := by
    unfold LayC at hC
    simp only [hC, and_self]
  obtain ⟨l1, l2, l3, l4, l5, l6, l7, l8, l9, l10, l11⟩ := l
  have hm : MCH M 18 19 20 2 6 (fun i => (mI M 2 i).toNatClampNeg) W := by
    refine ⟨l1, l2, l3, l4, l5, l6, l7, l8, l9, by omega, fun i hi => ?_, hW, by decide, by decide⟩
    obtain ⟨⟨w, w1, w2⟩, -⟩ := kt i hi
    show mI M 2 i = nI (mI M 2 i).toNatClampNeg ∧ (mI M 2 i).toNatClampNeg < 2147483648
    rw [(vt i hi).1, w2, nclampI (by omega)]
    exact ⟨rfl, by omega⟩
  refine c_runW (L := 800) (Lc := code.length) (C := cdF code) hm ⟨l10, l11, fun i hi => ?_⟩ (by omega) (by omega) (by decide) (by omega) (fun C' L' q1 q2 => hr C' L' (fun i v hv => ?_))
  · have hv := List.getElem?_eq_getElem hi
    have e := d6 i _ hv
    rw [Nat.zero_add] at e
    unfold cdF
    rw [List.getD_eq_getElem?_getD, hv]
    exact ⟨e, d4 _ (List.getElem_mem hi)⟩
  · have hi := (List.getElem?_eq_some_iff.mp hv).1
    rw [Nat.zero_add]
    refine ⟨?_, by omega⟩
    rw [q1 i hi]
    unfold cdF
    rw [List.getD_eq_getElem?_getD, hv]
    rfl
/-- the class's cells in ORDERS -/
def Sco (n0 a k : Nat) : Prop := Slk a k ∨ a = 19 ∨ a = 20 ∨ (5 ≤ a ∧ a ≤ 8 ∧ n0 ≤ k) ∨ (a = 1 ∧ (k = 8 ∨ k = 11 ∨ k = 14))
def Shs (a k : Nat) : Prop := (a = 1 ∧ (k = 8 ∨ k = 11)) ∨ (5 ≤ a ∧ a ≤ 8)
def CFW (n0 d : Nat) (M M1 : Mem) : Prop := Fw (Sco n0) Rop M M1 ∧ mn M1 = mn M ∧ mz M1 = mz M ∧ ∃ d', d' ≤ d ∧ mI M1 1 14 = mI M 1 14 + nI d' ∧ (d' = 0 → ∀ a k, Shs a k → mI M1 a k = mI M a k)
theorem CFW.tr {n0 d d2 : Nat} {M M1 M2 : Mem} (h : CFW n0 d M M1) (h2 : CFW n0 d2 M1 M2) : CFW n0 (d + d2) M M2 := by
  obtain ⟨a1, a2, a3, d', a4, a5, a6⟩ := h
  obtain ⟨b1', b2, b3, e', b4, b5, b6⟩ := h2
  exact ⟨a1.tr b1', by rw [b2, a2], by rw [b3, a3], d' + e', by omega, by rw [b5, a5, Int32.add_assoc, nadd], fun w a k q => by rw [b6 (by omega) a k q, a6 (by omega) a k q]⟩
theorem CFW.up {n0 d d2 : Nat} {M M1 : Mem} (h : CFW n0 d M M1) (hd : d ≤ d2) : CFW n0 d2 M M1 := by
  obtain ⟨a1, a2, a3, d', a4, a5⟩ := h
  exact ⟨a1, a2, a3, d', by omega, a5⟩
theorem CFW.rf {n0 : Nat} {M : Mem} : CFW n0 0 M M := ⟨Fw.rf, rfl, rfl, 0, by omega, (Int32.add_zero _).symm, fun _ _ _ _ => rfl⟩
theorem CFW.fr {n0 : Nat} {S : Nat → Nat → Prop} {M M1 : Mem} (hF : Fr S M M1) (hs : ∀ a k, S a k → a = 19 ∨ a = 20) : CFW n0 0 M M1 := ⟨(hF.fw).up (fun a k w => by rcases hs a k w with z | z; exact Or.inr (Or.inl z); exact Or.inr (Or.inr (Or.inl z))) (fun _ _ w => w), hF.1, hF.2.1, 0, by omega, by rw [hF.i (fun q => by have := hs 1 14 q; omega)]; exact (Int32.add_zero _).symm, fun _ a k w => hF.i (fun q => by have := hs a k q; unfold Shs at w; omega)⟩
/-- the class stands so in the midst of ORDERS -/
def COS (n0 B : Nat) (K0 : Nat → Int32) (cls : List CL) (code : List Nat) (M : Mem) (A : HSE) (y : Nat) : Prop := RUL M ∧ mI M 49 = K0 ∧ SCI B M ∧ CST M A y ∧ DTX M cls code ∧ n0 ≤ A.length
theorem COS.fr {n0 B : Nat} {K0 : Nat → Int32} {cls : List CL} {code : List Nat} {M M1 : Mem} {A : HSE} {y : Nat} {S : Nat → Nat → Prop} (h : COS n0 B K0 cls code M A y) (hF : Fr S M M1) (hs : ∀ a k, S a k → a = 19 ∨ a = 20) : COS n0 B K0 cls code M1 A y := by
  obtain ⟨h1, h2, h3, h4, h5, h6⟩ := h
  have h78 : 78 ≤ mn M := h1.2.2.2.2.2.2.2.2.1
  obtain ⟨r1, r2⟩ := h1.fr hF (fun a k w => by have := hs a k w; unfold Frr; omega)
  exact ⟨r1, r2.trans h2, h3.fr2 h78 hF (fun a k w => by have := hs a k w; omega), h4.fw h78 (hF.fw (R := fun _ _ => False)) (fun a k w => by have := hs a k w; omega), h5.fw h78 (hF.fw (R := fun _ _ => False)) (fun a k w => by have := hs a k w; omega), h6⟩
theorem COS.mono {n0 B B' : Nat} {K0 : Nat → Int32} {cls : List CL} {code : List Nat} {M : Mem} {A : HSE} {y : Nat} (h : COS n0 B K0 cls code M A y) (hB : B ≤ B') : COS n0 B' K0 cls code M A y := ⟨h.1, h.2.1, h.2.2.1.mono hB, h.2.2.2⟩
def roQ (n0 B : Nat) (K0 : Nat → Int32) (cls : List CL) (code : List Nat) (M : Mem) (o : Nat ⊕ OST) (q : Mem × Int32) : Prop := CFW n0 1 M q.1 ∧ match o with
  | .inr s' => q.2 = 0 ∧ COS n0 (B + 1) K0 cls code q.1 s'.1 s'.2.1 ∧ WDS q.1 s'.1 s'.2.2.1 s'.2.2.2
  | .inl e => q.2 = -(nI e) ∧ (e = 5 ∨ e = 3) ∧ ∃ A y, COS n0 (B + 1) K0 cls code q.1 A y
theorem roQ.of {n0 B : Nat} {K0 : Nat → Int32} {cls : List CL} {code : List Nat} {M M1 : Mem} {o : Nat ⊕ OST} {q : Mem × Int32} {S : Nat → Nat → Prop} (h : roQ n0 B K0 cls code M1 o q) (hF : Fr S M M1) (hs : ∀ a k, S a k → a = 19 ∨ a = 20) : roQ n0 B K0 cls code M o q := ⟨((CFW.fr hF hs).tr h.1).up (by omega), h.2⟩
def Sad (n a k : Nat) : Prop := (5 ≤ a ∧ a ≤ 8 ∧ k = n) ∨ (a = 1 ∧ (k = 8 ∨ k = 14))
theorem addc_sad {M : Mem} {n : Nat} {p1 p2 p3 p4 : Int32} : Fr (Sad n) M (ADDC M n p1 p2 p3 p4) := by
  unfold ADDC
  exact (((((Fr.rf.wI (show Sad n 5 n from Or.inl ⟨by omega, by omega, rfl⟩)).wI (show Sad n 6 n from Or.inl ⟨by omega, by omega, rfl⟩)).wI (show Sad n 7 n from Or.inl ⟨by omega, by omega, rfl⟩)).wI (show Sad n 8 n from Or.inl ⟨by omega, by omega, rfl⟩)).wI (show Sad n 1 14 from Or.inr ⟨rfl, Or.inr rfl⟩)).wI (show Sad n 1 8 from Or.inr ⟨rfl, Or.inl rfl⟩)
def Syr (a k : Nat) : Prop := a = 1 ∧ (k = 11 ∨ k = 14)
theorem turnTo_eq {M : Mem} (h : okO M 10 1) {p : Int32} : f_X10_turnTo M 1 p = some (wI (wI M 1 11 p) 1 14 (mI M 1 14 + 1)) := by
  unfold f_X10_turnTo
  rw [grd_y h]
  simp only [bv]
  rw [mI_wI_ne (by decide)]
theorem turn_fr {M : Mem} {p q : Int32} : Fr Syr M (wI (wI M 1 11 p) 1 14 q) := (Fr.rf.wI (show Syr 1 11 from ⟨rfl, Or.inl rfl⟩)).wI (show Syr 1 14 from ⟨rfl, Or.inr rfl⟩)
theorem COS.turn {n0 B : Nat} {K0 : Nat → Int32} {cls : List CL} {code : List Nat} {M : Mem} {A : HSE} {y y' : Nat} (h : COS n0 B K0 cls code M A y) (hy : y' ≤ 999) {q : Int32} : COS n0 B K0 cls code (wI (wI M 1 11 (nI y')) 1 14 q) A y' := by
  obtain ⟨h1, h2, h3, h4, h5, h6⟩ := h
  have h78 : 78 ≤ mn M := h1.2.2.2.2.2.2.2.2.1
  have hF := turn_fr (M := M) (p := nI y') (q := q)
  have e11 : mI (wI (wI M 1 11 (nI y')) 1 14 q) 1 11 = nI y' := by rw [mI_wI_ne (by decide), mI_wIs]
  generalize wI (wI M 1 11 (nI y')) 1 14 q = M1 at *
  obtain ⟨r1, r2⟩ := h1.fr hF (fun a k w => by unfold Syr at w; unfold Frr; omega)
  refine ⟨r1, r2.trans h2, h3.fwH h78 (hF.fw (R := fun _ _ => False)) (fun a k w => ⟨by unfold Syr at w; omega, by unfold Syr at w; omega, by unfold Syr at w; omega, by unfold Syr at w; omega, by unfold Syr at w; omega, by unfold Syr at w; omega, fun z => by have := z.1; unfold Syr at w; omega⟩) (fun _ _ w => w.elim), ?_, h5.fw h78 (hF.fw (R := fun _ _ => False)) (fun a k w => by unfold Syr at w; omega), h6⟩
  obtain ⟨c1, c2, c3, c4, c5⟩ := h4
  refine ⟨c1, by rw [hF.i (by unfold Syr; omega)]; exact c2, e11, hy, fun g e he => ?_⟩
  rw [hF.i (a := 5) (by unfold Syr; omega), hF.i (a := 6) (by unfold Syr; omega), hF.i (a := 7) (by unfold Syr; omega), hF.i (a := 8) (by unfold Syr; omega)]
  exact c5 g e he
theorem WDS.fr {S : Nat → Nat → Prop} {M M1 : Mem} {A : HSE} {dn : Nat} {la : Int32} (h : WDS M A dn la) (hF : Fr S M M1) (hs : ∀ k, ¬ S 19 k) : WDS M1 A dn la := fun k k1 k2 y => by
  rw [hF.i (hs k)]
  exact h k k1 k2 y
theorem WDS.dn {M : Mem} {A : HSE} {dn dn' : Nat} {la : Int32} (h : WDS M A dn la) : WDS (wI M 19 2 (nI dn')) A dn' la := fun k k1 k2 y => by
  by_cases c2 : k = 2
  · subst c2
    rw [mI_wIs]
    rfl
  · rw [mI_wI_ne c2, h k k1 k2 y]
    unfold wdR
    rw [if_neg (by omega), if_neg (by omega), if_neg c2, if_neg (show ¬ k = 0 by omega), if_neg (show ¬ k = 1 by omega), if_neg c2]
theorem WDS.la {M : Mem} {A : HSE} {dn : Nat} {la la' : Int32} (h : WDS M A dn la) : WDS (wI M 19 3 la') A dn la' := fun k k1 k2 y => by
  by_cases c3 : k = 3
  · subst c3
    rw [mI_wIs]
    rfl
  · rw [mI_wI_ne c3, h k k1 k2 y]
    unfold wdR
    by_cases c2 : k = 2
    · rw [if_neg (by omega), if_neg (by omega), if_pos c2, if_neg (show ¬ k = 0 by omega), if_neg (show ¬ k = 1 by omega), if_pos c2]
    · rw [if_neg (by omega), if_neg (by omega), if_neg c2, if_neg c3, if_neg (show ¬ k = 0 by omega), if_neg (show ¬ k = 1 by omega), if_neg c2, if_neg c3]
