/-! what Chances keeps stays right -/
theorem chg_cg {sd sd' : Nat → Option Nat} {l : List Nat} (hl : DL l) (h : ∀ t, t < 6 → sd' t = sd t) (s p t : Nat) : chg sd' l s p t = chg sd l s p t := by
  unfold chg
  split
  · rfl
  · rfl
  · rfl
  · rfl
  · rw [h _ (getD_lt hl)]
theorem cmk_cg {gt gt' : Nat → Bool} {sd sd' : Nat → Option Nat} {lw lw' : Nat → Nat → Nat → Nat → Nat → Option Nat} {l : List Nat} (hl : DL l) (hsd : ∀ t, t < 6 → ∀ u, sd t = some u → u < 6) (h1 : ∀ t, t < 6 → sd' t = sd t) (h2 : ∀ t, t < 6 → gt' t = gt t) (h3 : ∀ s t p n h, t < 6 → lw' s t p n h = lw s t p n h) {s p t : Nat} (ht : t < 6) : cmk gt' sd' lw' l s p t = cmk gt sd lw l s p t := by
  unfold cmk
  rw [chg_cg hl h1]
  cases hc : chg sd l s p t with
  | none => rfl
  | some c =>
    have hc6 := (chg_DL hl hsd ht hc).2
    show (wq gt' lw' s c.2 p l.length (l.count c.2)).map _ = (wq gt lw s c.2 p l.length (l.count c.2)).map _
    unfold wq
    rw [h2 _ hc6, h3 _ _ _ _ _ hc6]
theorem inn_cg {gt gt' : Nat → Bool} {sd sd' : Nat → Option Nat} {lw lw' : Nat → Nat → Nat → Nat → Nat → Option Nat} {l : List Nat} (h : ∀ s p t, t < 6 → cmk gt' sd' lw' l s p t = cmk gt sd lw l s p t) (s i : Nat) : inn gt' sd' lw' l s i = inn gt sd lw l s i := by
  unfold inn
  congr 1
  funext j
  refine h s _ _ ?_
  have h1 := thn_pos s
  have h2 : thn s ≤ 6 := by
    unfold thn
    split <;> omega
  have := Nat.mod_lt j h1
  omega
theorem chp_cg {gt gt' : Nat → Bool} {sd sd' : Nat → Option Nat} {lw lw' : Nat → Nat → Nat → Nat → Nat → Option Nat} {l : List Nat} (h : ∀ s p t, t < 6 → cmk gt' sd' lw' l s p t = cmk gt sd lw l s p t) : ∀ s i, chp gt' sd' lw' l s i = chp gt sd lw l s i
  | 0, i => inn_cg h 0 i
  | s + 1, i => by
    show chp gt' sd' lw' l s _ ++ inn gt' sd' lw' l (s + 1) i = chp gt sd lw l s _ ++ inn gt sd lw l (s + 1) i
    rw [chp_cg h s, inn_cg h]
/-- rows that agree in the rules tell the same changes -/
theorem EDG_ag {K K' : Nat → Int32} (hk : KTH K) (hl : KLW K) (ha : AGK K K') {y : Nat} {l : List Nat} (hd : DL l) : EDG K' y l = EDG K y l := by
  obtain ⟨aw, ak⟩ := ha
  obtain ⟨c, c1, c2, c3⟩ := hl
  unfold EDG chs
  refine chp_cg (fun s p t ht => cmk_cg hd (fun t ht u q => ((sdK_v hk ht).2 u q).1) (fun t ht => ?_) (fun t ht => ?_) (fun s t p n h ht => aw.eK ?_ ht) ht) 4 _
  · unfold sdK
    rw [ak (12 + t) (by omega)]
  · unfold gtK
    rw [ak (6 + t) (by omega)]
  · rcases c3 with q | ⟨f, q1, q2⟩
    · exact Or.inl q
    · exact Or.inr ⟨f, by omega, q2⟩
theorem hnd_ag {K K' : Nat → Int32} (hk : KTH K) (hl : KLW K) (ha : AGK K K') {y p : Nat} {Q T : Nat → Nat} (hp : p < 9331) : hnd K' y Q p T = hnd K y Q p T := by
  unfold hnd
  rw [EDG_ag hk hl ha (dR_v hp).1]
theorem nxtK_ag {K K' : Nat → Int32} (hk : KTH K) (hl : KLW K) (ha : AGK K K') {y : Nat} {Q : Nat → Nat} : ∀ k, k ≤ 9331 → nxtK K' y Q k = nxtK K y Q k
  | 0, _ => rfl
  | k + 1, h => by
    have e1 : nxtK K' y Q (k + 1) = hnd K' y Q k (nxtK K' y Q k) := rfl
    have e2 : nxtK K y Q (k + 1) = hnd K y Q k (nxtK K y Q k) := rfl
    rw [e1, e2, nxtK_ag hk hl ha k (by omega), hnd_ag hk hl ha (by omega)]
theorem PRT_ag {K K' : Nat → Int32} (hk : KTH K) (hl : KLW K) (ha : AGK K K') {y : Nat} {l : List Nat} : ∀ n, PRT K' y l n = PRT K y l n
  | 0 => by rw [PRT, PRT]
  | n + 1 => by
    rw [PRT, PRT, PRT_ag hk hl ha n]
    exact nxtK_ag hk hl ha 9331 (Nat.le_refl _)
/-- a call that leaves Chances alone -/
theorem CHN.q {c : Nat} (hc6 : c < 600) {M M2 : Mem} {S R : Nat → Nat → Prop} (h : CHN M) (hR : REL M) (hb : BND c M) (hq : QST M M2) (hF : Fw S R M M2) (hs : ∀ a k, S a k → ¬ (42 ≤ a ∧ a ≤ 44) ∧ (78 ≤ a → mK M a ≠ 15)) (hr : ∀ a k, R a k → a ≠ 42) : CHN M2 := by
  have h78 := hb.1
  obtain ⟨rp, rl, g1, g2, g3⟩ := h
  obtain ⟨d1, d2, d3, e1, e2, e3, e4, e5, e6, e7, _⟩ := hq
  have er : ∀ k, mR M2 42 k = mR M 42 k := fun k => hF.r (by omega) (fun q => hr _ _ q rfl)
  have ei : ∀ k, mI M2 42 k = mI M 42 k := fun k => hF.i (by omega) (fun q => by have := hs _ _ q; omega)
  refine ⟨rp, rl, by rw [er]; exact g1, by rw [er]; exact g2, ?_⟩
  rcases g3 with ⟨q1, q2, q3⟩ | ⟨q1, q2, q3, q4⟩
  · exact Or.inl ⟨q1, q2, by rw [ei]; exact q3⟩
  · refine Or.inr ⟨q1.fw hF, q2.fw hF, q3, ?_⟩
    rcases q4 with q4 | ⟨l', n', y', r, ru, b1', b2, b3, b4, b5, b6, b7, b8, b9, b10, b11⟩
    · exact Or.inl (by rw [ei]; exact q4)
    · obtain ⟨ru', u1, u2, u3⟩ := hb.2.2.1
      have eu : ru = ru' := (neqI (by omega) (by omega)).mp (b8.symm.trans u1)
      refine Or.inr ⟨l', n', y', r, ru + d1, b1', b2, b3, by rw [ei]; exact b4, by rw [ei]; exact b5, by rw [ei]; exact b6, by rw [ei]; exact b7, by rw [e4, b8, nadd], by omega, by omega, fun w => ?_⟩
      have hd : d1 = 0 := by omega
      have hj := b11 (by omega)
      rw [PRT_ag hR.2.2.1.1 hR.2.2.1.2.2.1 (e7 hd)]
      intro p hp
      have := q1.2.1.1
      rw [(hF.2.2.2.2 rp p this (fun q => (hs _ _ q).2 q1.1 q1.2.1.2)).2]
      exact hj p hp
theorem CHN.qf {c : Nat} (hc6 : c < 600) {M M2 : Mem} (h : CHN M) (hI : INV0 c M) (hq : QF M M2) : CHN M2 := by
  refine h.q hc6 hI.1 hI.2.1 hq.2.2.2 hq.1 (fun a k w => ?_) (fun a k w => ?_)
  · rcases w with w | w
    · exact ⟨by omega, fun q => by omega⟩
    · exact ⟨fun q => by have := w.1; omega, fun _ z => by rcases w.2 with u | u | u | ⟨u, _⟩ <;> omega⟩
  · rcases w with w | w | w | w
    · omega
    · omega
    · omega
    · have := w.1; omega
