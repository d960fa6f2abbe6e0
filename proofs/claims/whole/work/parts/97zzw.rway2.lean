theorem r_wl2 {M : Mem} {K : Nat → Int32} {y : Nat} {D : Nat → Option Nat} (hk : KTH K) (h : WCT M K y D) {B : Nat → Bool} (hB : LD M B) {dd : Nat} (hdd : dd < 9331) (h0 : ∀ q, q < 9331 → D q = some dd → B q = false) : TT (loopO (wl2 47 (nI dd)) (M, 0)) (fun M1 => ∃ B' : Nat → Bool, Fr S67 M M1 ∧ LD M1 B' ∧ ∀ q, q < 9331 → (D q = some dd → (B' q = true ↔ ∃ r, adjK K y q r ∧ B r = true ∧ D r = some (dd + 1))) ∧ (¬ D q = some dd → B' q = B q)) := by
  refine TT_for 9331 (fun k s => ∃ (M' : Mem) (B' : Nat → Bool), s = (M', nI k) ∧ Fr S67 M M' ∧ LD M' B' ∧ ∀ q, q < 9331 → ((D q = some dd ∧ q < k) → (B' q = true ↔ ∃ r, adjK K y q r ∧ B r = true ∧ D r = some (dd + 1))) ∧ (¬ (D q = some dd ∧ q < k) → B' q = B q)) ?_ (Nat.zero_le _) ⟨M, B, rfl, Fr.rf, hB, fun q hq => ⟨fun z => by omega, fun _ => rfl⟩⟩
  rintro k s hk9 ⟨M', B', rfl, hF, hL, hv⟩
  have hW := h.fr hF
  obtain ⟨hM', n', c1, -⟩ := id hW
  obtain ⟨l0, l1, l2, l3, -⟩ := lyF hM'
  unfold wl2
  simp only
  by_cases w : k = 9331
  · rw [if_pos ((le9331 hk9).mpr w), TT_some]
    subst w
    exact ⟨B', hF, hL, fun q hq => ⟨fun z => (hv q hq).1 ⟨z, hq⟩, fun z => (hv q hq).2 (fun u => z u.1)⟩⟩
  · have hp : k < 9331 := by omega
    rw [if_neg (fun q => w ((le9331 hk9).mp q)), l1, Option.bind_some, grd_y l2, l3, grd_y ((nvp (by omega)).mpr hp), nclampI (by omega), c1 k hp, TT_bv]
    by_cases w2 : D k = some dd
    · rw [if_pos ((fI_n (fun d q => h.2.2.2 _ d q) (by omega)).mpr w2), TT_bind]
      refine (r_wl3 hk hW hL hp w2).mono ?_
      rintro M1 ⟨v, f1, L1, v1⟩
      rw [TT_bv, TT_some]
      refine ⟨hp, M1, _, by rw [nsucc], hF.tr f1, L1, fun q hq => ?_⟩
      have hBk : B' k = false := by
        rw [(hv k hp).2 (fun u => by omega)]
        exact h0 k hp w2
      by_cases z : q = k
      · subst z
        refine ⟨fun _ => ?_, fun u => absurd ⟨w2, by omega⟩ u⟩
        simp only [if_pos]
        rw [v1, hBk]
        constructor
        · rintro (u | ⟨r, u1, u2, u3⟩)
          · cases u
          · have hr9 : r < 9331 := by
              obtain ⟨_, c, hc, e1⟩ := u1
              rw [← e1]
              exact rank_lt (EDG_DL hk (dR_v hp).1 hc).1
            rw [(hv r hr9).2 (fun u => by rw [u3] at u; have := Option.some.inj u.1; omega)] at u2
            exact ⟨r, u1, u2, u3⟩
        · rintro ⟨r, u1, u2, u3⟩
          have hr9 : r < 9331 := by
            obtain ⟨_, c, hc, e1⟩ := u1
            rw [← e1]
            exact rank_lt (EDG_DL hk (dR_v hp).1 hc).1
          refine Or.inr ⟨r, u1, ?_, u3⟩
          rw [(hv r hr9).2 (fun u => by rw [u3] at u; have := Option.some.inj u.1; omega)]
          exact u2
      · simp only [if_neg z]
        exact ⟨fun u => (hv q hq).1 ⟨u.1, by omega⟩, fun u => (hv q hq).2 (fun u2 => u ⟨u2.1, by omega⟩)⟩
    · rw [if_neg (fun q => w2 ((fI_n (fun d q => h.2.2.2 _ d q) (by omega)).mp q)), TT_bv, TT_some]
      refine ⟨hp, M', B', by rw [nsucc], hF, hL, fun q hq => ⟨fun u => (hv q hq).1 ⟨u.1, ?_⟩, fun u => (hv q hq).2 (fun u2 => u ⟨u2.1, by omega⟩)⟩⟩
      refine Nat.lt_of_le_of_ne (by omega) (fun z => w2 ?_)
      rw [← z]
      exact u.1
theorem r_wl1 {M : Mem} {K : Nat → Int32} {y a g e : Nat} {D : Nat → Option Nat} (hk : KTH K) (h : WCT M K y D) (hD : ∀ p d, D p = some d ↔ isD (adjK K y) a p d) (hg : g < 9331) (he : D g = some e) (hB : LD M (fun p => decide (p = g))) : TT (loopO (wl1 47) (M, nI e - 1)) (fun M1 => ∃ B : Nat → Bool, Fr S67 M M1 ∧ LD M1 B ∧ ∀ q dq, q < 9331 → D q = some dq → dq ≤ e → (B q = true ↔ wk (adjK K y) q (e - dq) g)) := by
  have he9 := h.2.2.2 g e he
  refine TT_for e (fun t s => ∃ (M' : Mem) (B : Nat → Bool), s = (M', nI (e - t) - 1) ∧ Fr S67 M M' ∧ LD M' B ∧ ∀ q dq, q < 9331 → D q = some dq → dq ≤ e → (e - t ≤ dq → (B q = true ↔ wk (adjK K y) q (e - dq) g)) ∧ (dq < e - t → B q = false)) ?_ (Nat.zero_le _) ⟨M, _, rfl, Fr.rf, hB, fun q dq hq hdq hle => ⟨fun z => ?_, fun z => ?_⟩⟩
  · rintro t s ht ⟨M', B, rfl, hF, hL, hv⟩
    unfold wl1
    simp only
    by_cases w : t = e
    · subst w
      rw [Nat.sub_self, if_pos nm1, TT_some]
      exact ⟨B, hF, hL, fun q dq hq hdq hle => (hv q dq hq hdq hle).1 (by omega)⟩
    · have el : nI (e - t) - 1 = nI (e - t - 1) := by
        rw [show e - t = (e - t - 1) + 1 from by omega, nprd, Nat.add_sub_cancel]
      rw [el, if_neg (ltz (by omega)), TT_bind]
      refine (r_wl2 hk (h.fr hF) hL (dd := e - t - 1) (by omega) (fun q hq hd => (hv q _ hq hd (by omega)).2 (by omega))).mono ?_
      rintro M1 ⟨B', f1, L1, v1⟩
      rw [TT_bv, TT_some]
      refine ⟨by omega, M1, B', by rw [ladd, Nat.sub_sub], hF.tr f1, L1, fun q dq hq hdq hle => ?_⟩
      by_cases z : dq = e - t - 1
      · subst z
        refine ⟨fun _ => ?_, fun u => by omega⟩
        rw [(v1 q hq).1 hdq, show e - (e - t - 1) = t + 1 from by omega, wk_head]
        constructor
        · rintro ⟨r, u1, u2, u3⟩
          have hr9 : r < 9331 := by
            obtain ⟨_, c, hc, e1⟩ := u1
            rw [← e1]
            exact rank_lt (EDG_DL hk (dR_v hq).1 hc).1
          have := (hv r _ hr9 u3 (by omega)).1 (by omega)
          rw [this, show e - (e - t - 1 + 1) = t from by omega] at u2
          exact ⟨r, u1, u2⟩
        · rintro ⟨r, u1, u2⟩
          have hr9 : r < 9331 := by
            obtain ⟨_, c, hc, e1⟩ := u1
            rw [← e1]
            exact rank_lt (EDG_DL hk (dR_v hq).1 hc).1
          have hq1 := (hD q _).mp hdq
          have hg1 := (hD g _).mp he
          have hr1 : isD (adjK K y) a r (e - t - 1 + 1) := by
            refine ⟨⟨q, hq1.1, u1⟩, fun e' h1 h2 => ?_⟩
            have := wk_app (c := g) h2 t u2
            exact hg1.2 (e' + t) (by omega) this
          have hr2 := (hD r _).mpr hr1
          refine ⟨r, u1, ?_, hr2⟩
          rw [(hv r _ hr9 hr2 (by omega)).1 (by omega), show e - (e - t - 1 + 1) = t from by omega]
          exact u2
      · rw [(v1 q hq).2 (fun u => z (by rw [hdq] at u; exact Option.some.inj u))]
        exact ⟨fun u => (hv q dq hq hdq hle).1 (by omega), fun u => (hv q dq hq hdq hle).2 (by omega)⟩
  · have : dq = e := by omega
    subst this
    rw [Nat.sub_self]
    show decide (q = g) = true ↔ g = q
    rw [decide_eq_true_iff]
    exact ⟨fun u => u.symm, fun u => u.symm⟩
  · have : q ≠ g := fun u => by
      rw [u, he] at hdq
      have := Option.some.inj hdq
      omega
    simp [this]
theorem r_wf1 {M : Mem} {K : Nat → Int32} {y : Nat} {D : Nat → Option Nat} (hk : KTH K) (h : WCT M K y D) {B : Nat → Bool} (hB : LD M B) {p dd : Nat} (hp : p < 9331) (hdd : dd < 9331) : TT (loopO (wf1 M 47 (nI p) (nI dd)) (9331, 0)) (fun x => ∃ b, x = nI b ∧ (∀ r, adjK K y p r → B r = true → D r = some (dd + 1) → b ≤ r) ∧ (b = 9331 ∨ (adjK K y p b ∧ B b = true ∧ D b = some (dd + 1)))) := by
  obtain ⟨dl, dr⟩ := dR_v hp
  have hlen := EDG_len (K := K) (y := y) dl
  obtain ⟨hM', n', c1, -⟩ := id h
  obtain ⟨l0, l1, l2, l3, -⟩ := lyF hM'
  obtain ⟨n1, n2, n3, n4, n5, n6⟩ := lyN hM'
  obtain ⟨r1, r2, r3⟩ := ly67 hM'
  refine TT_for (EDG K y (dR p)).length (fun k s => ∃ b, s = (nI b, nI k) ∧ b ≤ 9331 ∧ (∀ j c, j < k → (EDG K y (dR p))[j]? = some c → B (rank c.1) = true → D (rank c.1) = some (dd + 1) → b ≤ rank c.1) ∧ (b = 9331 ∨ (adjK K y p b ∧ B b = true ∧ D b = some (dd + 1)))) ?_ (Nat.zero_le _) ⟨9331, rfl, Nat.le_refl _, (fun j c hj => by omega), Or.inl rfl⟩
  rintro i s hi ⟨b, rfl, hb9, hb1, hb2⟩
  unfold wf1
  simp only
  rw [n1, Option.bind_some, grd_y n2, n3, grd_y ((nvp (by omega)).mpr hp), nclampI (a := p) (by omega), (n' p hp).1]
  by_cases w : i = (EDG K y (dR p)).length
  · rw [if_pos ((nleI (by omega) (by omega)).mpr (by omega)), TT_some]
    refine ⟨b, rfl, fun r hr q1 q2 => ?_, hb2⟩
    obtain ⟨_, c, hc, e1⟩ := hr
    obtain ⟨j, hj, ej⟩ := List.getElem_of_mem hc
    subst e1
    exact hb1 j c (by omega) (by rw [List.getElem?_eq_getElem hj, ej]) q1 q2
  · have hlt : i < (EDG K y (dR p)).length := by omega
    have hc := List.getElem?_eq_getElem hlt
    have hcm := List.getElem_mem hlt
    generalize (EDG K y (dR p))[i] = c at hc hcm
    have hdc := (EDG_DL hk dl hcm).1
    have hrl := rank_lt hdc
    have e63 := (n' p hp).2 i c hc
    have hadj : adjK K y p (rank c.1) := ⟨hp, c, hcm, rfl⟩
    rw [if_neg (fun q => w (by have := (nleI (by omega) (by omega)).mp q; omega)), n4, Option.bind_some, grd_y n5, show (46 : Int32) * nI p = nI (46 * p) from nmul 46 p, nadd, n6, grd_y ((nvp (by omega)).mpr (by omega)), nclampI (a := 46 * p + i) (by omega), e63, TT_bv, r1, Option.bind_some, grd_y r2, r3, grd_y ((nvp (by omega)).mpr hrl), TT_bv, nclampI (a := rank c.1) (by omega), hB _ hrl]
    have fin : ∀ b', b' ≤ b → b' ≤ 9331 → (B (rank c.1) = true → D (rank c.1) = some (dd + 1) → b' ≤ rank c.1) → (b' = 9331 ∨ (adjK K y p b' ∧ B b' = true ∧ D b' = some (dd + 1))) → TT (some (Sum.inl (nI b', nI i + 1)) : Option ((Int32 × Int32) ⊕ Int32)) (fun r => r.elim (fun s' => i < (EDG K y (dR p)).length ∧ ∃ b, s' = (nI b, nI (i + 1)) ∧ b ≤ 9331 ∧ (∀ j c, j < i + 1 → (EDG K y (dR p))[j]? = some c → B (rank c.1) = true → D (rank c.1) = some (dd + 1) → b ≤ rank c.1) ∧ (b = 9331 ∨ (adjK K y p b ∧ B b = true ∧ D b = some (dd + 1)))) (fun x => ∃ b, x = nI b ∧ (∀ r, adjK K y p r → B r = true → D r = some (dd + 1) → b ≤ r) ∧ (b = 9331 ∨ (adjK K y p b ∧ B b = true ∧ D b = some (dd + 1))))) := fun b' q1 q2 q3 q4 => by
      rw [TT_some]
      refine ⟨hlt, b', by rw [nsucc], q2, fun j c' hj hc' u1 u2 => ?_, q4⟩
      by_cases z : j = i
      · subst z
        rw [hc] at hc'
        cases hc'
        exact q3 u1 u2
      · have := hb1 j c' (by omega) hc' u1 u2
        omega
    cases hBr : B (rank c.1) with
    | false =>
      rw [if_pos (show b1 false = 0 from rfl)]
      exact fin b (Nat.le_refl _) hb9 (fun q => by rw [hBr] at q; cases q) hb2
    | true =>
      rw [if_neg (by decide), l1, Option.bind_some, grd_y l2, l3, grd_y ((nvp (by omega)).mpr hrl), c1 _ hrl, nsucc dd]
      by_cases w3 : D (rank c.1) = some (dd + 1)
      · rw [if_pos ((fI_n (fun d q => h.2.2.2 _ d q) (by omega)).mpr w3)]
        by_cases w4 : b ≤ rank c.1
        · rw [if_pos ((nleI (by omega) (by omega)).mpr w4)]
          exact fin b (Nat.le_refl _) hb9 (fun _ _ => w4) hb2
        · rw [if_neg (fun q => w4 ((nleI (by omega) (by omega)).mp q))]
          exact fin (rank c.1) (by omega) (by omega) (fun _ _ => Nat.le_refl _) (Or.inr ⟨hadj, hBr, w3⟩)
      · rw [if_neg (fun q => w3 ((fI_n (fun d q => h.2.2.2 _ d q) (by omega)).mp q))]
        exact fin b (Nat.le_refl _) hb9 (fun _ q => absurd q w3) hb2
theorem r_wf0 {M : Mem} {K : Nat → Int32} {y a g e ii : Nat} {D : Nat → Option Nat} (hk : KTH K) (h : WCT M K y D) (hD : ∀ p d, D p = some d ↔ isD (adjK K y) a p d) (ha : a < 9331) (hg : g < 9331) (he : D g = some e) (hi : ii ≤ e) {B : Nat → Bool} (hB : LD M B) (hBw : ∀ q dq, q < 9331 → D q = some dq → dq ≤ e → (B q = true ↔ wk (adjK K y) q (e - dq) g)) : TT (loopO (wf0 M 47 (nI ii)) (nI a, 0)) (fun x => ∃ r, x = nI r ∧ r < 9331 ∧ wsq K y g a e ii r) := by
  have he9 := h.2.2.2 g e he
  have hg1 := (hD g _).mp he
  have h0 : D a = some 0 := (hD a 0).mpr ⟨rfl, fun e' q => by omega⟩
  refine TT_for ii (fun t s => ∃ r, s = (nI r, nI t) ∧ r < 9331 ∧ D r = some t ∧ isD (adjK K y) r g (e - t) ∧ wsq K y g a e t r) ?_ (Nat.zero_le _) ⟨a, rfl, ha, h0, hg1, rfl⟩
  rintro t s ht ⟨p, rfl, hp, hdp, hpg, hw⟩
  unfold wf0
  simp only
  by_cases w : t = ii
  · rw [if_pos ((nleI (by omega) (by omega)).mpr (by omega)), TT_some]
    subst w
    exact ⟨p, rfl, hp, hw⟩
  · have hlt : t < ii := by omega
    rw [if_neg (fun q => w (by have := (nleI (by omega) (by omega)).mp q; omega)), TT_bind]
    refine (r_wf1 hk h hB hp (dd := t) (by omega)).mono ?_
    rintro x ⟨b, rfl, g1, g2⟩
    rw [TT_bv, TT_some]
    have hp1 := (hD p _).mp hdp
    have q9 : ∀ q, adjK K y p q → q < 9331 := fun q hq => by
      obtain ⟨_, c, hc, e1⟩ := hq
      rw [← e1]
      exact rank_lt (EDG_DL hk (dR_v hp).1 hc).1
    -- both say the same of a DISH that comes next
    have iff : ∀ q, adjK K y p q → ((B q = true ∧ D q = some (t + 1)) ↔ isD (adjK K y) q g (e - t - 1)) := fun q hq => by
      constructor
      · rintro ⟨u1, u2⟩
        have := (hBw q _ (q9 q hq) u2 (by omega)).mp u1
        rw [show e - (t + 1) = e - t - 1 from by omega] at this
        refine ⟨this, fun e' z1 z2 => ?_⟩
        refine hpg.2 (e' + 1) (by omega) ((wk_head e' p).mpr ⟨q, hq, z2⟩)
      · intro u
        have hq1 : isD (adjK K y) a q (t + 1) := by
          refine ⟨⟨p, hp1.1, hq⟩, fun e' z1 z2 => ?_⟩
          have := wk_app (c := g) z2 _ u.1
          exact hg1.2 _ (by omega) this
        have hq2 := (hD q _).mpr hq1
        refine ⟨?_, hq2⟩
        rw [hBw q _ (q9 q hq) hq2 (by omega), show e - (t + 1) = e - t - 1 from by omega]
        exact u.1
    have hex : ∃ q, adjK K y p q ∧ isD (adjK K y) q g (e - t - 1) := by
      have hh := hpg.1
      rw [show e - t = (e - t - 1) + 1 from by omega, wk_head] at hh
      obtain ⟨q, q1, q2⟩ := hh
      exact ⟨q, q1, q2, fun e' z1 z2 => hpg.2 (e' + 1) (by omega) ((wk_head e' p).mpr ⟨q, q1, z2⟩)⟩
    obtain ⟨q, hq1, hq2⟩ := hex
    have hqq := (iff q hq1).mpr hq2
    have hle := g1 q hq1 hqq.1 hqq.2
    have hq9 := q9 q hq1
    rcases g2 with z | ⟨z1, z2, z3⟩
    · omega
    · have hb := (iff b z1).mp ⟨z2, z3⟩
      refine ⟨hlt, b, by rw [nsucc], q9 b z1, z3, by rw [show e - (t + 1) = e - t - 1 from by omega]; exact hb, p, hw, ⟨z1, isD_rk.mp hb⟩, fun q' hq' => ?_⟩
      have := (iff q' hq'.1).mpr (isD_rk.mpr hq'.2)
      exact g1 q' hq'.1 this.1 this.2
