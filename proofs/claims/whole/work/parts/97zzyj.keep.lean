/-! what is kept from call to call: tables and the first -/
theorem adjK_ag {K K' : Nat → Int32} (hk : KTH K) (hl : KLW K) (ha : AGK K K') {y p q : Nat} : adjK K' y p q ↔ adjK K y p q := by
  unfold adjK
  refine and_congr_right (fun hp => ?_)
  rw [EDG_ag hk hl ha (dR_v hp).1]
theorem rdjK_ag {K K' : Nat → Int32} (hk : KTH K) (hl : KLW K) (ha : AGK K K') {y : Nat} : rdjK K' y = rdjK K y := by
  funext p q
  exact propext (adjK_ag hk hl ha)
theorem sdK_ag {K K' : Nat → Int32} (ha : AGK K K') {t : Nat} (ht : t < 6) : sdK K' t = sdK K t := by
  unfold sdK
  rw [ha.2 (12 + t) (by omega)]
theorem STB_ag {K K' : Nat → Int32} (ha : AGK K K') {x : Int32} (h : STB K x) : STB K' x := by
  obtain ⟨st, h1, h2, h3⟩ := h
  refine ⟨st, h1, h2, fun u hu => (h3 u hu).trans ⟨?_, ?_⟩⟩
  · rintro ⟨t, ht, e⟩
    exact ⟨t, ht, by rw [sdK_ag ha ht]; exact e⟩
  · rintro ⟨t, ht, e⟩
    exact ⟨t, ht, by rw [← sdK_ag ha ht]; exact e⟩
theorem TBO.q {c : Nat} (hc6 : c < 600) {M M2 : Mem} {S R : Nat → Nat → Prop} {d : Nat} (h : TBO M d) (hR : REL M) (hb : BND c M) (hq : QST M M2) (hF : Fw S R M M2) (hs : ∀ a k, S a k → 78 ≤ a → mK M a ≠ 2 ∧ mK M a ≠ 16) (hr : ∀ a k, R a k → 78 ≤ a → mK M a ≠ 2) : TBO M2 d := by
  obtain ⟨hT, g, y, ru, r, h1, h2, h3, h4, h5, h6, h7, h8, h9⟩ := h
  obtain ⟨t1, t2, t3, t4, t5, t6, t7, t8, t9, t10⟩ := id hT
  obtain ⟨d1, d2, d3, e1, e2, e3, e4, e5, e6, e7, _⟩ := hq
  have hT2 : TB M2 d := hT.fw hF (fun k q => hr d k q t1 t2.2)
  have e0 : ∀ k, mI M2 d k = mI M d k := fun k => hF.i t2.1 (fun w => (hs d k w t1).1 t2.2)
  have ee1 : ∀ k, mI M2 (d + 1) k = mI M (d + 1) k := fun k => hF.i t7.1 (fun w => (hs (d + 1) k w (by omega)).2 t7.2)
  have ee2 : ∀ k, mI M2 (d + 2) k = mI M (d + 2) k := fun k => hF.i t9.1 (fun w => (hs (d + 2) k w (by omega)).2 t9.2)
  obtain ⟨ru', u1, u2, u3⟩ := hb.2.2.1
  have eu : ru = ru' := (neqI (by omega) (by omega)).mp (h6.symm.trans u1)
  refine ⟨hT2, g, y, ru + d1, r, h1, h2, by rw [e0]; exact h3, by rw [e0]; exact h4, by rw [e0]; exact h5, by rw [e4, h6, nadd], by omega, by omega, fun w => ?_⟩
  have hd : d1 = 0 := by omega
  obtain ⟨Q, D, kk, g1, g2, g3, g4⟩ := h9 (by omega)
  refine ⟨Q, D, kk, by rw [e0]; exact g1, by rw [e0]; exact STB_ag (e7 hd) g2, g3.e (e0 5) ee1 ee2, ?_⟩
  rw [rdjK_ag hR.2.2.1.1 hR.2.2.1.2.2.1 (e7 hd)]
  exact g4
theorem PTH.q {c : Nat} (hc6 : c < 600) {M M2 : Mem} {S R : Nat → Nat → Prop} (h : PTH M) (hR : REL M) (hb : BND c M) (hq : QST M M2) (hF : Fw S R M M2) (hs : ∀ a k, S a k → (78 ≤ a → mK M a ≠ 2 ∧ mK M a ≠ 16) ∧ a ≠ 32) (hr : ∀ a k, R a k → a ≠ 33 ∧ (78 ≤ a → mK M a ≠ 2)) : PTH M2 := by
  have h78 := hb.1
  have e3 : mI M2 32 3 = mI M 32 3 := hF.i (by omega) (fun q => (hs 32 3 q).2 rfl)
  have er : ∀ i, mR M2 33 i = mR M 33 i := fun i => hF.r (by omega) (fun q => (hr _ _ q).1 rfl)
  refine ⟨by rw [e3]; exact h.1, fun i j d hi hj a b => h.2.1 i j d hi hj (by rw [← er]; exact a) (by rw [← er]; exact b), fun i d hi e => ?_⟩
  rw [er] at e
  exact (h.2.2 i d hi e).q hc6 hR hb hq hF (fun a k w => (hs a k w).1) (fun a k w => (hr a k w).2)
theorem HT.k {M : Mem} {a : Nat} (h : HT M a) : mK M a ≠ 2 ∧ mK M a ≠ 16 ∧ ¬ (mK M a = 14 ∧ mL M a = 9331) := by
  rcases h.2 with u | u | u | ⟨u, v⟩
  · rw [u]; exact ⟨by decide, by decide, fun q => by cases q.1⟩
  · rw [u]; exact ⟨by decide, by decide, fun q => by cases q.1⟩
  · rw [u]; exact ⟨by decide, by decide, fun q => by cases q.1⟩
  · rw [u]; exact ⟨by decide, by decide, fun q => by omega⟩
theorem PTH.qf {c : Nat} (hc6 : c < 600) {M M2 : Mem} (h : PTH M) (hI : INV0 c M) (hq : QF M M2) : PTH M2 := by
  refine h.q hc6 hI.1 hI.2.1 hq.2.2.2 hq.1 (fun a k w => ?_) (fun a k w => ?_)
  · rcases w with w | w
    · exact ⟨fun q => by omega, by omega⟩
    · exact ⟨fun _ => ⟨w.k.1, w.k.2.1⟩, by have := w.1; omega⟩
  · rcases w with w | w | w | w
    · exact ⟨by omega, fun q => by omega⟩
    · exact ⟨by omega, fun q => by omega⟩
    · exact ⟨by omega, fun q => by omega⟩
    · exact ⟨by have := w.1; omega, fun _ => w.k.1⟩
theorem PTH.ch {c : Nat} (hc6 : c < 600) {M M2 : Mem} (h : PTH M) (hI : INV0 c M) (hq : CHQ c M M2) : PTH M2 := by
  obtain ⟨q1, q2, q3, q4, q5, q6⟩ := hq
  refine h.q hc6 hI.1 hI.2.1 q2 q4 (fun a k w => ?_) (fun a k w => ?_)
  · rcases sod_x a k w with u | u
    · exact ⟨fun q => by omega, by omega⟩
    · exact ⟨fun _ => ⟨by rw [u.2]; decide, by rw [u.2]; decide⟩, by omega⟩
  · rcases w with w | w
    · have := w.1
      exact ⟨by omega, fun q => by omega⟩
    · have := w.1
      exact ⟨by omega, fun q => by omega⟩
theorem CHN.pq {c : Nat} (hc6 : c < 600) {M M2 : Mem} (h : CHN M) (hI : INV0 c M) (hq : PTQ c M M2) : CHN M2 := by
  refine h.q hc6 hI.1 hI.2.1 hq.2.1 hq.2.2.1 (fun a k w => ?_) (fun a k w => (rpx_old a k w).2.2.2.2)
  rcases spw_x a k w with u | ⟨u, v⟩
  · exact ⟨by omega, fun q => by omega⟩
  · refine ⟨by omega, fun _ z => ?_⟩
    rcases v with v | v | v <;> omega
theorem dst_ag {K K' : Nat → Int32} (hk : KTH K) (hl : KLW K) (ha : AGK K K') {y g p : Nat} : dst K' y g p = dst K y g p := opt_iff (fun e => by rw [dst_iff, dst_iff, rdjK_ag hk hl ha])
theorem LSC.e {M M1 : Mem} {o : Option (Nat × Nat × Nat)} (h : LSC M o) (e : ∀ k, 4 ≤ k → mI M1 32 k = mI M 32 k) : LSC M1 o := by
  cases o with
  | none =>
    show mI M1 32 7 = -1
    rw [e 7 (by omega)]
    exact h
  | some t =>
    obtain ⟨s, c, r⟩ := t
    obtain ⟨a, b, d⟩ := h
    exact ⟨by rw [e 7 (by omega)]; exact a, by rw [e 8 (by omega)]; exact b, by rw [e 9 (by omega)]; exact d⟩
/-- houses told by kept rows that agree -/
theorem HSV.ag {M M2 : Mem} {n n' : Nat} {mo mo' : Nat → Option Nat} {yr yr' : Nat → Nat} {di di' : Nat → List Nat} (h : HSV M n mo yr di) (h' : HSV M2 n' mo' yr' di') (hy : YHK (mI M 49) (mI M2 49)) : n' = n ∧ ∀ j, j < n → di' j = di j := by
  have hn := h.1
  have hn' := h'.1
  have e : n' = n := (neqI (by omega) (by omega)).mp (by rw [← h'.2.1, ← h.2.1]; exact hy.2.1)
  refine ⟨e, fun j hj => ?_⟩
  obtain ⟨-, -, a3, -, -, a6, -⟩ := h.2.2.2 j hj
  obtain ⟨-, -, b3, -, -, b6, -⟩ := h'.2.2.2 j (by omega)
  refine (num_inj b3 a3).mp ?_
  rw [← a6, ← b6]
  exact (hy.2.2 n j hn h.2.1 hj).2.2
theorem FSC.q {c : Nat} (hc6 : c < 600) {M M2 : Mem} {S R : Nat → Nat → Prop} (h : FSC M) (hR : REL M) (hR2 : REL M2) (hb : BND c M) (hq : QST M M2) (hF : Fw S R M M2) (e32 : ∀ k, 4 ≤ k → mI M2 32 k = mI M 32 k) (r32 : mR M2 32 4 = mR M 32 4) : FSC M2 := by
  obtain ⟨h0, t, st, sp, h1, h2, h3, h4, h5, h6, h7⟩ := h
  obtain ⟨d1, d2, d3, e1, e2, e3, e4, e5, e6, e7, e8, e9⟩ := hq
  obtain ⟨sp', u1, u2, u3⟩ := hb.2.2.2.1
  have eu : sp = sp' := (neqI (by omega) (by omega)).mp (h3.symm.trans u1)
  refine ⟨?_, t, st, sp + d2, by rw [e32 5 (by omega)]; exact h1, by rw [e32 6 (by omega)]; exact h2, by rw [e5, h3, nadd], h4, by omega, by omega, fun q1 q2 => ?_⟩
  · rcases h0 with q | ⟨rs, q1, q2, q3, q4⟩
    · exact Or.inl (by rw [r32]; exact q)
    · exact Or.inr ⟨rs, by rw [r32]; exact q1, q2, hF.ok q3, by rw [hF.l q3.1]; exact q4⟩
  · have hd : d2 = 0 := by omega
    obtain ⟨a1, a2⟩ := e8 hd
    obtain ⟨n, mo, yr, di, y, g1, g2, g3, g4⟩ := h7 q1 (by omega)
    obtain ⟨n', mo', yr', di', hv'⟩ := hR2.hsv
    obtain ⟨en, ed⟩ := g1.ag hv' a2
    subst en
    refine ⟨n', mo', yr', di', y, hv', by rw [a2.1]; exact g2, g3, ?_⟩
    rw [lsF_cg (smF_cg (T' := fun h p => dst (mI M 49) y (rank (di h)) p) n' (fun h p hh => by rw [dst_ag hR.2.2.1.1 hR.2.2.1.2.2.1 a1, ed h hh]))]
    exact g4.e e32
theorem FSC.qf {c : Nat} (hc6 : c < 600) {M M2 : Mem} (h : FSC M) (hI : INV0 c M) (hI2 : INV0 (c + 1) M2) (hq : QF M M2) : FSC M2 := by
  have h78 := hI.2.1.1
  refine h.q hc6 hI.1 hI2.1 hI.2.1 hq.2.2.2 hq.1 (fun k hk => hq.1.i (by omega) (fun w => ?_)) (hq.1.r (by omega) (fun w => ?_))
  · rcases w with w | w
    · omega
    · have := w.1; omega
  · rcases w with w | w | w | w
    · omega
    · omega
    · omega
    · have := w.1; omega
theorem FSC.ch {c : Nat} (hc6 : c < 600) {M M2 : Mem} (h : FSC M) (hI : INV0 c M) (hq : CHQ c M M2) : FSC M2 := by
  have h78 := hI.2.1.1
  obtain ⟨q1, q2, q3, q4, q5, q6⟩ := hq
  refine h.q hc6 hI.1 q1.1 hI.2.1 q2 q4 (fun k hk => q4.i (by omega) (fun w => ?_)) (q4.r (by omega) (fun w => ?_))
  · rcases sod_x _ k w with u | u <;> omega
  · rcases w with w | w
    · have := w.1; omega
    · have := w.1; omega
theorem FSC.pq {c : Nat} (hc6 : c < 600) {M M2 : Mem} (h : FSC M) (hI : INV0 c M) (hq : PTQ c M M2) (hk : KF M M2) : FSC M2 := h.q hc6 hI.1 hq.1.1 hI.2.1 hq.2.1 hq.2.2.1 hk.1 hk.2.1
