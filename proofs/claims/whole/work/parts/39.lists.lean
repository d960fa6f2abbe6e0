/-! the reference's lists, over what its law tells -/
def Sas (a _k : Nat) : Prop := a = 61
def Stl (a k : Nat) : Prop := a = 47 ∧ 26 ≤ k ∧ k ≤ 29
def ASK (M : Mem) (K : Nat → Int32) (y s t p n h : Nat) : Prop := mI M 61 0 = nI s ∧ mI M 61 1 = nI t ∧ mI M 61 2 = nI p ∧ mI M 61 3 = nI n ∧ mI M 61 4 = nI h ∧ mI M 61 5 = K t ∧ mI M 61 6 = nI y ∧ mI M 61 7 = K 55
/-- what is asked of the reference's tells -/
def TSp (K : Nat → Int32) (lw : Nat → Nat → Nat → Nat → Nat → Nat → Option Nat) : Prop :=
  (∀ M, LayM M → (∀ k, mI M 49 k = K k) → ∀ y s t p n h, y ≤ 999 → s < 5 → t < 6 → p < 6 → n ≤ 5 → h ≤ 5 → ASK M K y s t p n h →
    TT (f_X12_tells M 47 2 0) (fun q => Fr Stl M q.1 ∧ q.2 = (if lw y s t p n h = none then 1 else 0)) ∧ ∀ w, lw y s t p n h = some w → TT (f_X12_tells M 47 1 1) (fun q => Fr Stl M q.1 ∧ q.2 = nI w)) ∧
  ∀ y s t p n h w, lw y s t p n h = some w → w ≤ 99
theorem p_longOf' {l : List Nat} (hl : DL l) : f_X12_longOf (nI (num l)) = some (nI l.length) := by
  have := p_longOf hl.rev
  rw [List.length_reverse] at this
  exact this
theorem p_has' {l : List Nat} (hl : DL l) {a t0 : Nat} (ht : t0 < 6) : f_X12_has a (nI (num l)) (nI t0) = some (nI (l.count t0)) := by
  have := p_has hl.rev (a := a) ht
  rw [List.count_reverse] at this
  exact this
set_option maxHeartbeats 4000000 in
theorem fr61 {M M' : Mem} (h : Fr Sas M M') (k : Nat) (v : Int32) : Fr Sas M (wI M' 61 k v) := h.wI (show Sas 61 k from rfl)
theorem p_sets {M : Mem} (hL : LayM M) {l : List Nat} (hl : DL l) {s th p y : Nat} (hth : th < 6) (ht : mI M 47 8 = nI th) : TT (f_X12_sets M 47 (nI (num l)) (nI s) (nI p) (nI y)) (fun M' => Fr Sas M M' ∧ ASK M' (mI M 49) y s th p l.length (l.count th)) := by
  have hL0 := hL
  unfold LayM at hL
  unfold f_X12_sets
  have v8 : ∀ {k : Nat}, k < 8 → vp_in (nI k) 8 := fun hk => (nvp (by omega)).mpr hk
  rw [p_longOf' hl]
  simp only [bv, hL, grd_T, Option.bind_some, mR_wI, ok_wI, mL_wI]
  simp only [mI_wI_row (a := 61) (b := 47) (by decide), mI_wI_row (a := 61) (b := 49) (by decide), ht, p_has' hl hth, Option.bind_some]
  rw [show (0 : Int32) + nI th = nI th by rw [show (0 : Int32) = nI 0 from rfl, nadd]; simp]
  simp only [TT_grd, TT_some]
  refine ⟨v8 (k := 0) (by omega), v8 (k := 1) (by omega), v8 (k := 2) (by omega), v8 (k := 3) (by omega), v8 (k := 4) (by omega), (nvp (by omega)).mpr (by omega), v8 (k := 5) (by omega), v8 (k := 6) (by omega), (nvp (a := 55) (by omega)).mpr (by omega), v8 (k := 7) (by omega), ?_, ?_⟩
  · exact fr61 (fr61 (fr61 (fr61 (fr61 (fr61 (fr61 (fr61 Fr.rf _ _) _ _) _ _) _ _) _ _) _ _) _ _) _ _
  · have c0 : (0 : Int32).toNatClampNeg = 0 := rfl
    have c1 : (1 : Int32).toNatClampNeg = 1 := rfl
    have c2 : (2 : Int32).toNatClampNeg = 2 := rfl
    have c3 : (3 : Int32).toNatClampNeg = 3 := rfl
    have c4 : (4 : Int32).toNatClampNeg = 4 := rfl
    have c5 : (5 : Int32).toNatClampNeg = 5 := rfl
    have c6 : (6 : Int32).toNatClampNeg = 6 := rfl
    have c7 : (7 : Int32).toNatClampNeg = 7 := rfl
    have c55 : (55 : Int32).toNatClampNeg = 55 := rfl
    rw [c0, c1, c2, c3, c4, c5, c6, c7, c55, nclampI (by omega)]
    refine ⟨?_, ?_, ?_, ?_, ?_, ?_, ?_, ?_⟩ <;> simp [mI_wI]
theorem cmk_eq {gt : Nat → Bool} {sd : Nat → Option Nat} {lw : Nat → Nat → Nat → Nat → Nat → Option Nat} {l : List Nat} {s p t : Nat} : cmk gt sd lw l s p t = (chgG gt sd l s p t).bind (fun c => (lw s c.2 p l.length (l.count c.2)).map (fun w => (c.1, w))) := by
  unfold cmk chgG wq
  cases chg sd l s p t with
  | none => rfl
  | some c =>
    simp only [Option.bind_some]
    by_cases h : (s = 1 ∨ s = 3) ∧ gt c.2 = false
    · rw [if_pos h, if_pos h]; rfl
    · rw [if_neg h, if_neg h]; rfl
def Sch (a k : Nat) : Prop := Smk a k ∨ Sas a k ∨ Stl a k
theorem chg_place {sd : Nat → Option Nat} {l : List Nat} {s p t : Nat} {c : List Nat × Nat} (h : chg sd l s p t = some c) : p ≤ l.length := by
  unfold chg at h
  split at h <;> split at h <;> first | cases h; done | (rename_i hc; omega)
theorem chgG_chg {gt : Nat → Bool} {sd : Nat → Option Nat} {l : List Nat} {s p t : Nat} {c : List Nat × Nat} (h : chgG gt sd l s p t = some c) : chg sd l s p t = some c := by
  unfold chgG at h
  cases hc : chg sd l s p t with
  | none => rw [hc] at h; cases h
  | some d =>
    rw [hc] at h
    simp only [Option.bind_some] at h
    split at h
    · cases h
    · exact h
def chQ (M : Mem) (gt : Nat → Bool) (sd : Nat → Option Nat) (lw : Nat → Nat → Nat → Nat → Nat → Option Nat) (l : List Nat) (s p t : Nat) (q : Mem × Int32) : Prop := Fr Sch M q.1 ∧ match cmk gt sd lw l s p t with
  | none => q.2 = -1
  | some c => q.2 = nI (num c.1) ∧ ∃ th, th < 6 ∧ mI q.1 47 8 = nI th ∧ lw s th p l.length (l.count th) = some c.2
theorem p_changed {K : Nat → Int32} {lw : Nat → Nat → Nat → Nat → Nat → Nat → Option Nat} (hT : TSp K lw) {M : Mem} (hL : LayM M) (hK : ∀ k, mI M 49 k = K k) {l : List Nat} (hl : DL l) {gt : Nat → Bool} {sd : Nat → Option Nat} (hG : KGS M gt sd) {s p t y : Nat} {p4 : Int32} (hs : s < 5) (hp : p < 2147483000) (h4 : s = 1 → p4 = nI t ∧ t < 6) (ht6 : t < 6) (hy : y ≤ 999) : TT (f_X12_changed M 47 (nI (num l)) (nI s) (nI p) p4 (nI y)) (chQ M gt sd (lw y) l s p t) := by
  have hL0 := hL
  unfold LayM at hL
  unfold f_X12_changed
  simp only [hL, grd_T]
  rw [TT_bind]
  refine (p_makes hL0 hl hG hs hp h4).mono ?_
  rintro ⟨M1, x⟩ ⟨hF1, hx⟩
  simp only at hF1 hx ⊢
  have hF1' : Fr Sch M M1 := hF1.up (fun a k h => Or.inl h)
  unfold chQ
  rw [cmk_eq]
  cases hc : chgG gt sd l s p t with
  | none =>
    rw [hc] at hx
    simp only at hx
    subst hx
    rw [if_pos rfl, TT_some]
    exact ⟨hF1', rfl⟩
  | some c =>
    rw [hc] at hx
    obtain ⟨hx1, hx2⟩ := hx
    subst hx1
    have hcg := chgG_chg hc
    obtain ⟨hcD, hc6⟩ := chg_DL hl (fun t ht => (hG t ht).2.2) ht6 hcg
    have hpl := chg_place hcg
    have h5 := hl.1
    have hnum : num c.1 ≤ 66666 := hcD.rev.nr
    have hcc : l.count c.2 ≤ 5 := Nat.le_trans List.count_le_length h5
    rw [if_neg (nne_m1 (by omega)), TT_bind]
    refine (p_sets (hL0.fr hF1) hl hc6 hx2).mono ?_
    rintro M2 ⟨hF2, hA⟩
    have hK1 : ∀ k, mI M1 49 k = K k := fun k => by rw [hF1.i (by unfold Smk; omega)]; exact hK k
    have hK2 : ∀ k, mI M2 49 k = K k := fun k => by rw [hF2.i (by unfold Sas; omega)]; exact hK1 k
    have hA2 : ASK M2 K y s c.2 p l.length (l.count c.2) := by
      have : mI M1 49 = K := funext hK1
      rw [this] at hA
      exact hA
    rw [TT_bind]
    refine (hT.1 M2 ((hL0.fr hF1).fr hF2) hK2 y s c.2 p l.length (l.count c.2) hy hs hc6 (by omega) h5 hcc hA2).1.mono ?_
    rintro ⟨M3, z⟩ ⟨hF3, hz⟩
    simp only at hF3 hz ⊢
    subst hz
    have hF : Fr Sch M M3 := (hF1'.tr (hF2.up (fun a k h => Or.inr (Or.inl h)))).tr (hF3.up (fun a k h => Or.inr (Or.inr h)))
    simp only [Option.bind_some]
    cases hw : lw y s c.2 p l.length (l.count c.2) with
    | none =>
      rw [if_pos rfl, if_pos rfl, TT_some]
      exact ⟨hF, rfl⟩
    | some w =>
      rw [if_neg (by simp), TT_some]
      refine ⟨hF, rfl, c.2, hc6, ?_, hw⟩
      show mI M3 47 8 = nI c.2
      rw [hF3.i (by unfold Stl; omega), hF2.i (by unfold Sas; omega)]
      exact hx2
theorem p_weighs {K : Nat → Int32} {lw : Nat → Nat → Nat → Nat → Nat → Nat → Option Nat} (hT : TSp K lw) {M : Mem} (hL : LayM M) (hK : ∀ k, mI M 49 k = K k) {l : List Nat} (hl : DL l) {s p y th w : Nat} (hs : s < 5) (hp : p < 6) (hy : y ≤ 999) (hth : th < 6) (ht : mI M 47 8 = nI th) (hw : lw y s th p l.length (l.count th) = some w) : TT (f_X12_weighs M 47 (nI (num l)) (nI s) (nI p) (nI y)) (fun q => Fr Sch M q.1 ∧ q.2 = nI w) := by
  have hL0 := hL
  unfold LayM at hL
  unfold f_X12_weighs
  simp only [hL, grd_T]
  rw [TT_bind]
  refine (p_sets hL0 hl hth ht).mono ?_
  rintro M2 ⟨hF2, hA⟩
  have hK2 : ∀ k, mI M2 49 k = K k := fun k => by rw [hF2.i (by unfold Sas; omega)]; exact hK k
  have hA2 : ASK M2 K y s th p l.length (l.count th) := by
    have : mI M 49 = K := funext hK
    rw [this] at hA
    exact hA
  have hcc : l.count th ≤ 5 := Nat.le_trans List.count_le_length hl.1
  rw [TT_bind]
  refine ((hT.1 M2 (hL0.fr hF2) hK2 y s th p l.length (l.count th) hy hs hth hp hl.1 hcc hA2).2 w hw).mono ?_
  rintro ⟨M3, z⟩ ⟨hF3, hz⟩
  simp only at hF3 hz ⊢
  rw [TT_some]
  exact ⟨(hF2.up (fun a k h => Or.inr (Or.inl h))).tr (hF3.up (fun a k h => Or.inr (Or.inr h))), hz⟩
