/-! a Text that is kept, and the Scale when it is open -/
def NOY (sms : List SM) : Prop := ∀ K y y' s t p n h, lawS sms (WRD K y s t p n h) = lawS sms (WRD K y' s t p n h)
def TXR (M : Mem) (tx : Nat) (sms : List SM) : Prop := ∃ cls C L, 78 ≤ tx ∧ LTX M tx (tx + 1) (tx + 2) cls C L ∧ SMS C L cls sms ∧ LOC8 sms ∧ (mI M tx 4 = 0 → NOY sms)
/-- rows of the heap that hold Texts or IMAGES -/
def HT (M : Mem) (a : Nat) : Prop := 78 ≤ a ∧ (mK M a = 9 ∨ mK M a = 10 ∨ mK M a = 19 ∨ (mK M a = 14 ∧ mL M a ≤ 800))
theorem LTX.fw {S R : Nat → Nat → Prop} {M M1 : Mem} {tx cr ca L : Nat} {cls : List CL} {C : Nat → Nat} (h : LTX M tx cr ca cls C L) (hF : Fw S R M M1) (hs : ∀ k, ¬ S tx k ∧ ¬ S cr k ∧ ¬ S ca k) (hr : ∀ k, ¬ R tx k) : LTX M1 tx cr ca cls C L := by
  obtain ⟨a1, a2, a3, a4, a5, a6, a7, a8, a9, a10, a11, a12, a13⟩ := h
  have l0 := a1.1
  have l1 := a6.1
  have l2 := a9.1
  refine ⟨hF.ok a1, (hF.r l0 (hr 0)).trans a2, (hF.r l0 (hr 1)).trans a3, (hF.i l0 (hs 2).1).trans a4, a5, hF.ok a6, by rw [hF.l l1]; exact a7, by rw [hF.l l1]; exact a8, hF.ok a9, (hF.l l2).trans a10, a11, fun i hi => ?_, fun i cl hc f hf => ?_⟩
  · rw [hF.i l2 (hs i).2.2]
    exact a12 i hi
  · rw [hF.i l1 (hs (i * 6 + f)).2.1]
    exact a13 i cl hc f hf
theorem TXR.fw {S R : Nat → Nat → Prop} {M M1 : Mem} {tx : Nat} {sms : List SM} (h : TXR M tx sms) (hF : Fw S R M M1) (hs : ∀ k, ¬ S tx k ∧ ¬ S (tx + 1) k ∧ ¬ S (tx + 2) k) (hr : ∀ k, ¬ R tx k) : TXR M1 tx sms := by
  obtain ⟨cls, C, L, h78, hx, hS, hl, hy⟩ := h
  refine ⟨cls, C, L, h78, hx.fw hF hs hr, hS, hl, fun e => hy ?_⟩
  rw [← hF.i hx.1.1 (hs 4).1]
  exact e
theorem TXR.ht {M : Mem} {tx : Nat} {sms : List SM} (h : TXR M tx sms) : HT M tx ∧ HT M (tx + 1) ∧ HT M (tx + 2) := by
  obtain ⟨cls, C, L, h78, ⟨a1, a2, a3, a4, a5, a6, a7, a8, a9, a10, a11, a12, a13⟩, hS, hl, hy⟩ := h
  have k1 := a1.2
  have k2 := a6.2
  have k3 := a9.2
  exact ⟨⟨h78, Or.inl k1⟩, ⟨by omega, Or.inr (Or.inr (Or.inr ⟨k2, by omega⟩))⟩, ⟨by omega, Or.inr (Or.inr (Or.inr ⟨k3, by omega⟩))⟩⟩
theorem TXR.ok {M : Mem} {tx : Nat} {sms : List SM} (h : TXR M tx sms) : okO M 9 tx := by
  obtain ⟨cls, C, L, h78, ⟨a1, _⟩, _⟩ := h
  exact a1
/-- the Scale is open for a YEAR -/
def SCV (o : Option (List SM)) (K : Nat → Int32) (y : Nat) (gt : Nat → Bool) (tn : Nat) (M : Mem) : Prop := match o with
  | none => SCN gt tn M
  | some sms => ∃ tx y0, mR M 21 3 = some tx ∧ TXR M tx sms ∧ mI M 21 4 = nI tn ∧ mI M 21 6 = nI y0 ∧ y0 ≤ 999 ∧ (∀ t, t < 6 → mI M 2 t = K t ∧ (mI M 3 t = 0 ↔ gt t = false)) ∧ mI M 1 12 = K 55 ∧ CELLS M tn (fun s t p n h => lwL (some sms) K y0 s t p n h) ∧ (y0 = y ∨ NOY sms)
theorem WSp_scv {o : Option (List SM)} {K : Nat → Int32} {y tn : Nat} {gt : Nat → Bool} (htn : tn < 16777216) : WSp (SCV o K y gt tn) gt (fun s t p n h => lwL o K y s t p n h) := by
  cases o with
  | none => exact WSp_none
  | some sms =>
    refine ⟨fun M hL hSC s t p n h hs ht hp hn hh => ?_, fun s t p n h w e => lwL_le e, fun S M M1 hS1 hF hSC => ?_⟩
    · obtain ⟨tx, y0, b1', ⟨cls, C, L, h78, hX, hS, hl, hy⟩, b3, b4, b9, b5, b6, b7, b8⟩ := hSC
      have hw := WSp_text (K := K) (y := y0) (gt := gt) hS hl ⟨h78, show 78 ≤ tx + 1 by omega, show 78 ≤ tx + 2 by omega⟩ htn
      refine (hw.1 M hL ⟨b1', hX, b3, b4, b5, b6, b7⟩ s t p n h hs ht hp hn hh).mono ?_
      rintro q ⟨hF, ⟨c1, c2, c3, c4, c5, c6, c7⟩, hq⟩
      refine ⟨hF, ⟨tx, y0, c1, ⟨cls, C, L, h78, c2, hS, hl, fun e => hy ?_⟩, c3, c4, b9, c5, c6, c7, b8⟩, ?_⟩
      · rw [← hF.i (by unfold Ssc; omega)]
        exact e
      · rw [hq]
        rcases b8 with rfl | b8
        · rfl
        · congr 1
          unfold wq
          congr 1
          exact b8 K y0 y s t p n h
    · obtain ⟨tx, y0, b1', ⟨cls, C, L, h78, hX, hS, hl, hy⟩, b3, b4, b9, b5, b6, b7, b8⟩ := hSC
      have e : ∀ a k, ¬ (26 ≤ a ∧ a ≤ 31) → mI M1 a k = mI M a k := fun a k w => hF.i (fun q => w (hS1 a k q))
      refine ⟨tx, y0, by rw [hF.2.2.2.2.1]; exact b1', ⟨cls, C, L, h78, hX.fr hF (fun w => by have := hS1 _ _ w; omega) (fun k w => by have := hS1 _ _ w; omega) (fun k w => by have := hS1 _ _ w; omega), hS, hl, fun q => hy (by rw [← e tx 4 (by omega)]; exact q)⟩, by rw [e 21 4 (by omega)]; exact b3, by rw [e 21 6 (by omega)]; exact b4, b9, fun t ht => ?_, by rw [e 1 12 (by omega)]; exact b6, fun s t p n h h1 h2 h3 h4 h5 => ?_, b8⟩
      · rw [e 2 t (by omega), e 3 t (by omega)]
        exact b5 t ht
      · rw [e 25 _ (by omega)]
        exact b7 s t p n h h1 h2 h3 h4 h5
theorem SCV.clb {o : Option (List SM)} {K : Nat → Int32} {y tn : Nat} {gt : Nat → Bool} {M : Mem} (h : SCV o K y gt tn M) : mI M 21 4 = nI tn ∧ CLB M tn := by
  cases o with
  | none => exact ⟨h.2.2.1, h.2.2.2⟩
  | some sms =>
    obtain ⟨tx, y0, b1', b2, b3, b4, b9, b5, b6, b7, b8⟩ := h
    refine ⟨b3, fun s t p n h h1 h2 h3 h4 h5 => ?_⟩
    obtain ⟨v, v1, v2, v3, -⟩ := b7 s t p n h h1 h2 h3 h4 h5
    exact ⟨v, v1, v2, v3⟩
theorem CLB.e {M M1 : Mem} {tn : Nat} (h : CLB M tn) (e : ∀ k, mI M1 25 k = mI M 25 k) : CLB M1 tn := fun s t p n hh h1 h2 h3 h4 h5 => by
  rw [e]
  exact h s t p n hh h1 h2 h3 h4 h5
theorem SCV.fw {o : Option (List SM)} {K K' : Nat → Int32} {y tn : Nat} {gt gt' : Nat → Bool} {M M1 : Mem} {S R : Nat → Nat → Prop} (h : SCV o K y gt tn M) (h78 : 78 ≤ mn M) (hF : Fw S R M M1) (hs : ∀ a k, S a k → a ≠ 21 ∧ a ≠ 25 ∧ ¬ HT M a) (hr : ∀ a k, R a k → ¬ (a = 21 ∧ k = 3) ∧ (78 ≤ a → mK M a ≠ 9)) (v2 : ∀ t, t < 6 → mI M1 2 t = mI M 2 t) (eg : ∀ t, t < 6 → mI M1 3 t = mI M 3 t) (v12 : mI M1 1 12 = mI M 1 12) (hK : ∀ t, t < 6 → K' t = K t) (h55 : K' 55 = K 55) (hg : ∀ t, t < 6 → gt' t = gt t) : SCV o K' y gt' tn M1 := by
  have e3 : mR M1 21 3 = mR M 21 3 := hF.r (by omega) (fun q => (hr 21 3 q).1 ⟨rfl, rfl⟩)
  have e25 : ∀ k, mI M1 25 k = mI M 25 k := fun k => hF.i (by omega) (fun q => (hs _ _ q).2.1 rfl)
  have e21 : ∀ k, mI M1 21 k = mI M 21 k := fun k => hF.i (by omega) (fun q => (hs _ _ q).1 rfl)
  cases o with
  | none =>
    obtain ⟨b1', b5, b6, b7⟩ := h
    refine ⟨e3.trans b1', fun t ht => ?_, (e21 4).trans b6, b7.e e25⟩
    rw [eg t ht, hg t ht]
    exact b5 t ht
  | some sms =>
    obtain ⟨tx, y0, b1', b2, b3, b4, b9, b5, b6, b7, b8⟩ := h
    obtain ⟨t1, t2, t3⟩ := b2.ht
    refine ⟨tx, y0, e3.trans b1', b2.fw hF (fun k => ⟨fun q => (hs _ _ q).2.2 t1, fun q => (hs _ _ q).2.2 t2, fun q => (hs _ _ q).2.2 t3⟩) (fun k q => (hr _ _ q).2 t1.1 b2.ok.2), (e21 4).trans b3, (e21 6).trans b4, b9, fun t ht => ?_, v12.trans (b6.trans h55.symm), fun s t p n hh h1 h2 h3 h4 h5 => ?_, b8⟩
    · rw [eg t ht, hg t ht, v2 t ht, hK t ht]
      exact b5 t ht
    · rw [e25]
      have ew : lwL (some sms) K' y0 s t p n hh = lwL (some sms) K y0 s t p n hh := by
        show lawS sms (WRD K' y0 s t p n hh) = lawS sms (WRD K y0 s t p n hh)
        congr 1
        funext i
        unfold WRD
        rw [hK t h2, h55]
      simp only [ew]
      exact b7 s t p n hh h1 h2 h3 h4 h5
