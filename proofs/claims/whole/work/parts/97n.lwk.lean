/-! weights by the kept row alone -/
def S61 (a _k : Nat) : Prop := a = 61
theorem fr61w {M M' : Mem} (h : Fr S61 M M') (k : Nat) (v : Int32) : Fr S61 M (wI M' 61 k v) := h.wI (show S61 61 k from rfl)
noncomputable def M61 (M : Mem) (v0 v1 v2 v3 v4 v5 v6 v7 : Int32) : Mem := wI (wI (wI (wI (wI (wI (wI (wI M 61 0 v0) 61 1 v1) 61 2 v2) 61 3 v3) 61 4 v4) 61 5 v5) 61 6 v6) 61 7 v7
theorem M61_fr {M : Mem} {v0 v1 v2 v3 v4 v5 v6 v7 : Int32} : Fr S61 M (M61 M v0 v1 v2 v3 v4 v5 v6 v7) := by
  unfold M61
  exact fr61w (fr61w (fr61w (fr61w (fr61w (fr61w (fr61w (fr61w Fr.rf 0 _) 1 _) 2 _) 3 _) 4 _) 5 _) 6 _) 7 _
theorem M61_at {M : Mem} {W : Nat → Int32} {i : Nat} (hi : i < 8) : mI (M61 M (W 0) (W 1) (W 2) (W 3) (W 4) (W 5) (W 6) (W 7)) 61 i = W i := by
  unfold M61
  have hc : i = 0 ∨ i = 1 ∨ i = 2 ∨ i = 3 ∨ i = 4 ∨ i = 5 ∨ i = 6 ∨ i = 7 := by omega
  rcases hc with rfl | rfl | rfl | rfl | rfl | rfl | rfl | rfl <;> simp [mI_wI]
theorem TT_two {α : Type} {t : Option α} {Q R : α → Prop} (h : TT t Q) (h2 : TT t R) : ∃ x, Q x ∧ R x := by
  obtain ⟨x, e, q⟩ := h
  obtain ⟨x', e', q'⟩ := h2
  rw [e] at e'
  cases e'
  exact ⟨x, q, q'⟩
/-- what the LAW in force tells is told by the kept row -/
theorem LAWF_un {M : Mem} (hM : LayM M) {K : Nat → Int32} (hK : mI M 49 = K) {o o' : Option (List SM)} (h : LAWF K o) (h' : LAWF K o') : lwL o K = lwL o' K := by
  rcases h with ⟨rfl, h58⟩ | ⟨sms, T, len, f, rfl, hf, h58, hP, hlen, hT, hT2, hR⟩
  · rcases h' with ⟨rfl, _⟩ | ⟨sms', T', len', f', rfl, hf', h58', _⟩
    · rfl
    · exact absurd (h58.symm.trans h58') (fun e => by
        have := congrArg Int32.toInt e
        rw [nI_tI (by omega)] at this
        have h1 : (-1 : Int32).toInt = -1 := rfl
        omega)
  · rcases h' with ⟨rfl, h58'⟩ | ⟨sms', T', len', f', rfl, hf', h58', hP', hlen', hT', hT2', hR'⟩
    · exact absurd (h58'.symm.trans h58) (fun e => by
        have := congrArg Int32.toInt e
        rw [nI_tI (by omega)] at this
        have h1 : (-1 : Int32).toInt = -1 := rfl
        omega)
    · obtain rfl : f = f' := (neqI (by omega) (by omega)).mp (h58.symm.trans h58')
      have key : ∀ W : Nat → Int32, lawS sms W = lawS sms' W := by
        intro W
        have hF := M61_fr (M := M) (v0 := W 0) (v1 := W 1) (v2 := W 2) (v3 := W 3) (v4 := W 4) (v5 := W 5) (v6 := W 6) (v7 := W 7)
        have hW : ∀ i, i < 8 → mI (M61 M (W 0) (W 1) (W 2) (W 3) (W 4) (W 5) (W 6) (W 7)) 61 i = W i := fun i hi => M61_at hi
        generalize M61 M (W 0) (W 1) (W 2) (W 3) (W 4) (W 5) (W 6) (W 7) = M2 at *
        have e49 : mI M2 49 = K := by
          rw [← hK]
          funext k
          exact hF.i (by unfold S61; omega)
        have hM2 := hM.fr hF
        rw [← e49] at h58 hP hP'
        obtain ⟨x, ⟨-, b1'⟩, -, b2⟩ := TT_two (r_tells_bar hT hT2 hlen hM2 hf h58 hP hW hR) (r_tells_bar hT' hT2' hlen' hM2 hf h58 hP' hW hR')
        rw [b1'] at b2
        cases hs : lawS sms W with
        | none =>
          rw [hs, if_pos rfl] at b2
          cases hs' : lawS sms' W with
          | none => rfl
          | some w => rw [hs', if_neg (fun q => by cases q)] at b2; exact absurd b2 (by decide)
        | some w =>
          rw [hs, if_neg (fun q => by cases q)] at b2
          cases hs' : lawS sms' W with
          | none => rw [hs', if_pos rfl] at b2; exact absurd b2 (by decide)
          | some w' =>
            obtain ⟨x, ⟨-, c1⟩, -, c2⟩ := TT_two (r_tells_wei hT hT2 hlen hM2 hf h58 hP hW hR hs) (r_tells_wei hT' hT2' hlen' hM2 hf h58 hP' hW hR' hs')
            rw [c1] at c2
            have := lawS_le hs
            have := lawS_le hs'
            rw [(neqI (by omega) (by omega)).mp c2]
      funext y s t p n h
      exact key _
noncomputable def lwO (K : Nat → Int32) : Option (List SM) := Classical.epsilon (LAWF K)
/-- the weights that the kept row tells -/
noncomputable def lwK (K : Nat → Int32) : Nat → Nat → Nat → Nat → Nat → Nat → Option Nat := lwL (lwO K) K
theorem lwO_of {K : Nat → Int32} {o : Option (List SM)} (h : LAWF K o) : LAWF K (lwO K) := Classical.epsilon_spec ⟨o, h⟩
theorem lwK_eq {M : Mem} (hM : LayM M) {K : Nat → Int32} (hK : mI M 49 = K) {o : Option (List SM)} (h : LAWF K o) : lwK K = lwL o K := LAWF_un hM hK (lwO_of h) h
theorem TSp_K {K : Nat → Int32} {o : Option (List SM)} (h : LAWF K o) : TSp K (lwK K) := TSp_of (lwO_of h)
theorem lwK_le {K : Nat → Int32} {y s t p n h w : Nat} (e : lwK K y s t p n h = some w) : w ≤ 99 := lwL_le e
/-- the kept rows agree in all that a weight is told by -/
def AGW (K K' : Nat → Int32) : Prop := (∀ t, t < 6 → K' t = K t) ∧ K' 55 = K 55 ∧ K' 58 = K 58 ∧ ∀ g, g < 6 → K 58 = nI g → K' (59 + g) = K (59 + g) ∧ ∀ j, j < 400 → K' (66 + 400 * g + j) = K (66 + 400 * g + j) ∧ K' (2866 + 400 * g + j) = K (2866 + 400 * g + j)
theorem AGW.law {K K' : Nat → Int32} (h : AGW K K') {o : Option (List SM)} (hk : K 58 = -1 ∨ ∃ f, f < 6 ∧ K 58 = nI f) (hl : LAWF K o) : LAWF K' o := by
  obtain ⟨-, -, a3, a4⟩ := h
  rcases hl with ⟨rfl, h58⟩ | ⟨sms, T, len, f, rfl, hf, h58, hP, hlen, hT, hT2, hR⟩
  · exact Or.inl ⟨rfl, a3.trans h58⟩
  · rcases hk with hk | ⟨g, hg, hk⟩
    · exact absurd (hk.symm.trans h58) (fun e => by
        have := congrArg Int32.toInt e
        rw [nI_tI (by omega)] at this
        have h1 : (-1 : Int32).toInt = -1 := rfl
        omega)
    · obtain rfl : f = g := (neqI (by omega) (by omega)).mp (h58.symm.trans hk)
      refine Or.inr ⟨sms, T, len, f, rfl, hf, a3.trans h58, ⟨(a4 f hg h58).1.trans hP.1, fun j hj => ?_⟩, hlen, hT, hT2, hR⟩
      rw [((a4 f hg h58).2 j (by omega)).1, ((a4 f hg h58).2 j (by omega)).2]
      exact hP.2 j hj
theorem AGW.sym {K K' : Nat → Int32} (h : AGW K K') : AGW K' K := ⟨fun t ht => (h.1 t ht).symm, h.2.1.symm, h.2.2.1.symm, fun g hg e => ⟨(h.2.2.2 g hg (h.2.2.1.symm.trans e)).1.symm, fun j hj => ⟨((h.2.2.2 g hg (h.2.2.1.symm.trans e)).2 j hj).1.symm, ((h.2.2.2 g hg (h.2.2.1.symm.trans e)).2 j hj).2.symm⟩⟩⟩
theorem AGW.eO {K K' : Nat → Int32} (h : AGW K K') (hk : K 58 = -1 ∨ ∃ f, f < 6 ∧ K 58 = nI f) : lwO K' = lwO K := by
  have e : LAWF K' = LAWF K := by
    funext o
    exact propext ⟨fun q => h.sym.law (by rw [h.2.2.1]; exact hk) q, fun q => h.law hk q⟩
  unfold lwO
  rw [e]
theorem AGW.eK {K K' : Nat → Int32} (h : AGW K K') (hk : K 58 = -1 ∨ ∃ f, f < 6 ∧ K 58 = nI f) {y s t p n hh : Nat} (ht : t < 6) : lwK K' y s t p n hh = lwK K y s t p n hh := by
  unfold lwK
  rw [h.eO hk]
  cases lwO K with
  | none => rfl
  | some sms =>
    show lawS sms (WRD K' y s t p n hh) = lawS sms (WRD K y s t p n hh)
    congr 1
    funext i
    unfold WRD
    rw [h.1 t ht, h.2.1]
/-- what is got, what stands in -/
def gtK (K : Nat → Int32) (t : Nat) : Bool := decide (K (6 + t) ≠ 0)
def sdK (K : Nat → Int32) (t : Nat) : Option Nat := if K (12 + t) = -1 then none else some (K (12 + t)).toNatClampNeg
theorem sdK_v {K : Nat → Int32} (h : KTH K) {t : Nat} (ht : t < 6) : K (12 + t) = oI (sdK K t) ∧ ∀ u, sdK K t = some u → u < 6 ∧ u ≠ t := by
  unfold sdK
  rcases (h t ht).2.2 with e | ⟨u, h1, h2, e⟩
  · rw [if_pos e, e]
    exact ⟨rfl, fun u q => by cases q⟩
  · have hne : ¬ nI u = -1 := fun q => by
      have := congrArg Int32.toInt q
      rw [nI_tI (by omega)] at this
      have h1 : (-1 : Int32).toInt = -1 := rfl
      omega
    rw [e, if_neg hne, nclampI (by omega)]
    refine ⟨rfl, fun v q => ?_⟩
    cases q
    exact ⟨h1, h2⟩
theorem gtK_v {K : Nat → Int32} (h : KTH K) {t : Nat} (ht : t < 6) : K (6 + t) = (if gtK K t then 1 else 0) ∧ (K (6 + t) = 0 ↔ gtK K t = false) := by
  unfold gtK
  rcases (h t ht).2.1 with e | e
  · rw [e]; decide
  · rw [e]; decide
