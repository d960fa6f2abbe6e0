/-! what the Pedigree keeps, from call to call -/
theorem Wt_ag {K K' : Nat → Int32} (hk : KTH K) (hl : KLW K) (ha : AGK K K') {y : Nat} {di : Nat → List Nat} {L : List Nat} : Wt K' y di L = Wt K y di L := by
  funext i j
  unfold Wt
  rw [dst_ag hk hl ha]
theorem PDC.q {c : Nat} (hc6 : c < 600) {M M2 : Mem} (h : PDC M) (hR : REL M) (hR2 : REL M2) (hb : BND c M) (hq : QST M M2) (e34 : ∀ a k, 34 ≤ a → a ≤ 41 → mI M2 a k = mI M a k) : PDC M2 := by
  obtain ⟨t, st, sp, h1, h2, h3, h4, h5, h6, h7⟩ := h
  obtain ⟨d1, d2, d3, e1, e2, e3, e4, e5, e6, e7, e8, e9⟩ := hq
  obtain ⟨sp', u1, u2, u3⟩ := hb.2.2.2.1
  have eu : sp = sp' := (neqI (by omega) (by omega)).mp (h3.symm.trans u1)
  refine ⟨t, st, sp + d2, by rw [e34 34 8 (by omega) (by omega)]; exact h1, by rw [e34 34 9 (by omega) (by omega)]; exact h2, by rw [e5, h3, nadd], h4, by omega, by omega, fun q1 q2 => ?_⟩
  have hd : d2 = 0 := by omega
  obtain ⟨a1, a2⟩ := e8 hd
  obtain ⟨n, mo, yr, di, y, g1, g2, g3, g4, g5, g6, g7⟩ := h7 q1 (by omega)
  obtain ⟨n', mo', yr', di', hv'⟩ := hR2.hsv
  obtain ⟨en, ed⟩ := g1.ag hv' a2
  subst en
  refine ⟨n', mo', yr', di', y, hv', by rw [a2.1]; exact g2, g3, g4, by rw [e34 34 7 (by omega) (by omega)]; exact g5, fun j v e => by rw [e34 35 j (by omega) (by omega)]; exact g6 j v e, ?_⟩
  rw [Wt_ag hR.2.2.1.1 hR.2.2.1.2.2.1 a1, Wt_cg (di := di') (di' := di) (fun j v e => ed v (g4.2 j v e))]
  exact g7.e e34
theorem PDC.qf {c : Nat} (hc6 : c < 600) {M M2 : Mem} (h : PDC M) (hI : INV0 c M) (hI2 : INV0 (c + 1) M2) (hq : QF M M2) : PDC M2 := by
  have h78 := hI.2.1.1
  refine h.q hc6 hI.1 hI2.1 hI.2.1 hq.2.2.2 (fun a k h1 h2 => hq.1.i (by omega) (fun w => ?_))
  rcases w with w | w
  · omega
  · have := w.1; omega
theorem PDC.ch {c : Nat} (hc6 : c < 600) {M M2 : Mem} (h : PDC M) (hI : INV0 c M) (hq : CHQ c M M2) : PDC M2 := by
  have h78 := hI.2.1.1
  obtain ⟨q1, q2, q3, q4, q5, q6⟩ := hq
  refine h.q hc6 hI.1 q1.1 hI.2.1 q2 (fun a k h1 h2 => q4.i (by omega) (fun w => ?_))
  rcases sod_x _ k w with u | u <;> omega
theorem PDC.pq {c : Nat} (hc6 : c < 600) {M M2 : Mem} (h : PDC M) (hI : INV0 c M) (hq : PTQ c M M2) (hk : ∀ a k, 34 ≤ a → a ≤ 41 → mI M2 a k = mI M a k) : PDC M2 := h.q hc6 hI.1 hq.1.1 hI.2.1 hq.2.1 hk
/-- the whole invariant but for the room -/
def INV1 (c : Nat) (M : Mem) : Prop := INV0 c M ∧ CHN M ∧ NXC M ∧ PTH M ∧ FSC M ∧ PDC M
/-- the room that may still be taken at most for what is made once -/
noncomputable def rmz (M : Mem) : Nat := chz M + 18673 * ptk M + 9331 * fsk M
theorem INV1.qf {c : Nat} (hc6 : c < 600) {M M2 : Mem} (h : INV1 c M) (hI2 : INV0 (c + 1) M2) (hq : QF M M2) : INV1 (c + 1) M2 ∧ mz M2 + rmz M2 ≤ mz M + rmz M + 500 := by
  obtain ⟨h1, h2, h3, h4, h5, h6⟩ := h
  refine ⟨⟨hI2, h2.qf hc6 h1 hq, h3.qf hc6 h1 hI2 hq, h4.qf hc6 h1 hq, h5.qf hc6 h1 hI2 hq, h6.qf hc6 h1 hI2 hq⟩, ?_⟩
  have h78 := h1.2.1.1
  have er : ∀ a k, (a = 42 ∨ a = 33 ∨ a = 32) → mR M2 a k = mR M a k := fun a k w => hq.1.r (by omega) (fun z => by
    rcases z with z | z | z | z
    · omega
    · omega
    · omega
    · have := z.1; omega)
  have e : rmz M2 = rmz M := by
    unfold rmz chz ptk fsk
    rw [er 42 3 (by omega), er 33 0 (by omega), er 33 1 (by omega), er 33 2 (by omega), er 32 4 (by omega)]
  rw [e]
  have := hq.2.2.1
  omega
theorem INV1.ch {c : Nat} (hc6 : c < 600) {M M2 : Mem} (h : INV1 c M) (hq : CHQ c M M2) : INV1 (c + 1) M2 ∧ mz M2 + rmz M2 ≤ mz M + rmz M + 500 := by
  obtain ⟨h1, h2, h3, h4, h5, h6⟩ := h
  obtain ⟨q1, q2, q3, q4, q5, q6⟩ := id hq
  refine ⟨⟨q1, q3, h3.ch hc6 h1 hq, h4.ch hc6 h1 hq, h5.ch hc6 h1 hq, h6.ch hc6 h1 hq⟩, ?_⟩
  have h78 := h1.2.1.1
  have er : ∀ a k, (a = 33 ∨ a = 32) → mR M2 a k = mR M a k := fun a k w => q4.r (by omega) (fun z => by
    rcases z with z | z
    · have := z.1; omega
    · have := z.1; omega)
  have e1 : ptk M2 = ptk M := by
    unfold ptk
    rw [er 33 0 (by omega), er 33 1 (by omega), er 33 2 (by omega)]
  have e2 : fsk M2 = fsk M := by
    unfold fsk
    rw [er 32 4 (by omega)]
  unfold rmz
  rw [e1, e2]
  omega
theorem INV1.pq {c : Nat} (hc6 : c < 600) {M M2 : Mem} (h : INV1 c M) (hq : PTQ c M M2) (hf : FSC M2) (hp : PDC M2) : INV1 (c + 1) M2 ∧ mz M2 + rmz M2 ≤ mz M + rmz M + 500 := by
  obtain ⟨h1, h2, h3, h4, h5, h6⟩ := h
  obtain ⟨q1, q2, q3, q4, q5, q6, q7⟩ := id hq
  refine ⟨⟨q1, h2.pq hc6 h1 hq, q5, q4, hf, hp⟩, ?_⟩
  have h78 := h1.2.1.1
  have er : mR M2 42 3 = mR M 42 3 := q3.r (by omega) (fun z => (rpx_old _ _ z).2.2.2.2 rfl)
  have e : chz M2 = chz M := by
    unfold chz
    rw [er]
  have := q6.2
  unfold rmz
  rw [e]
  omega
