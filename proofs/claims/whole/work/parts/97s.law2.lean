/-! law() keeps the invariant -/
def Sq (M : Mem) (a k : Nat) : Prop := (a < 78 ∧ ¬ (32 ≤ a ∧ a ≤ 44) ∧ a ≠ 63 ∧ a ≠ 64 ∧ ¬ (a = 47 ∧ k = 34)) ∨ HT M a
def Rq (M : Mem) (a k : Nat) : Prop := a = 9 ∨ a = 10 ∨ (a = 21 ∧ k = 3) ∨ HT M a
/-- how a call goes on that leaves Paths, Pedigree and Chances alone -/
def QF (M M2 : Mem) : Prop := Fw (Sq M) (Rq M) M M2 ∧ mn M2 ≤ mn M + 12 ∧ mz M2 ≤ mz M + 500 ∧ QST M M2
def CALL (c : Nat) (M : Mem) (f g : Mem → Option (Mem × Int32)) : Prop := ∃ M1 M2 x, f M = some (M1, x) ∧ g M1 = some (M2, x) ∧ INV0 (c + 1) M2 ∧ QF M M2
theorem rf45 {Y : Mem} {n m : Nat} (hn : RN n) (hm : RN m) : mI (RFC Y n) 45 (cid m) = if m = n then mI Y 45 (cid m) + 1 else mI Y 45 (cid m) := by
  unfold RFC
  by_cases e : m = n
  · subst e
    rw [mI_wIs, if_pos rfl]
  · rw [if_neg e, mI_wI_ne (fun q => e (cid_inj hm hn q)), mI_wI_row (by decide)]
theorem rf48 {X : Mem} {n m : Nat} : mI (RFM X n) 48 m = if m = n then mI X 48 m + 1 else mI X 48 m := by
  unfold RFM
  by_cases e : m = n
  · subst e
    rw [mI_wIs, if_pos rfl]
  · rw [if_neg e, mI_wI_ne e, mI_wI_row (by decide)]
theorem rfm_v {X : Mem} {n : Nat} : (∀ a k, a ≠ 47 → a ≠ 48 → mI (RFM X n) a k = mI X a k) ∧ (∀ k, k ≠ 0 → mI (RFM X n) 47 k = mI X 47 k) ∧ mI (RFM X n) 47 0 = -(nI n) := by
  unfold RFM
  refine ⟨fun a k h1 h2 => by rw [mI_wI_row h2, mI_wI_row h1], fun k h => by rw [mI_wI_row (by decide), mI_wI_ne h], by rw [mI_wI_row (by decide), mI_wIs]⟩
theorem rfc_v {X : Mem} {n : Nat} : (∀ a k, a ≠ 0 → a ≠ 45 → mI (RFC X n) a k = mI X a k) ∧ (∀ k, k ≠ 12 → mI (RFC X n) 0 k = mI X 0 k) ∧ mI (RFC X n) 0 12 = -(nI n) := by
  unfold RFC
  refine ⟨fun a k h1 h2 => by rw [mI_wI_row h2, mI_wI_row h1], fun k h => by rw [mI_wI_row (by decide), mI_wI_ne h], by rw [mI_wI_row (by decide), mI_wIs]⟩
theorem OUTS.rf {M Y X : Mem} {n : Nat} (h : OUTS M) (hn : RN n) (hY : ∀ k, mI Y 45 k = mI M 45 k) (hX45 : ∀ k, mI X 45 k = mI (RFC Y n) 45 k) (hX0 : mI X 0 12 = mI (RFC Y n) 0 12) (hX48 : ∀ k, mI X 48 k = mI M 48 k) : OUTS (RFM X n) := by
  refine ⟨?_, fun m hm => ?_⟩
  · rw [rfm_v.1 0 12 (by decide) (by decide), hX0, rfc_v.2.2, rfm_v.2.2]
  · rw [rfm_v.1 45 _ (by decide) (by decide), hX45, rf45 hn hm, rf48, hY, hX48, h.2 m hm]
theorem fr_rfc {S : Nat → Nat → Prop} {M X : Mem} {n : Nat} (h : Fr S M X) (h0 : S 0 12) (h45 : ∀ k, S 45 k) : Fr S M (RFC X n) := (h.wI h0).wI (h45 _)
theorem fr_rfm {S : Nat → Nat → Prop} {M X : Mem} {n : Nat} (h : Fr S M X) (h0 : S 47 0) (h48 : ∀ k, S 48 k) : Fr S M (RFM X n) := (h.wI h0).wI (h48 _)
theorem INV0.refused {c : Nat} {M M2 : Mem} (hc : c < 600) (h : INV0 c M) (hF : Fr Sno M M2) (hO : OUTS M2) (hT : ∃ n bt, TAPE M2 n bt) (h14 : mI M2 0 14 = mI M2 47 18) (h15 : mI M2 0 15 = mI M2 47 46) : INV0 (c + 1) M2 ∧ QF M M2 := by
  have e : ∀ a k, ¬ Sno a k → mI M2 a k = mI M a k := fun a k w => hF.i w
  have e49 : mI M2 49 = mI M 49 := funext (fun k => e 49 k (by unfold Sno; omega))
  have h78 := h.2.1.1
  have hq : QST M M2 := ⟨0, 0, 0, by omega, by omega, by omega, by rw [e 1 13 (by unfold Sno; omega)]; exact (Int32.add_zero _).symm, by rw [e 1 14 (by unfold Sno; omega)]; exact (Int32.add_zero _).symm, by rw [e 47 1 (by unfold Sno; omega)]; exact (Int32.add_zero _).symm, by rw [e49]; exact fun _ => AGK.rf, by rw [e49]; exact fun _ => ⟨AGK.rf, YHK.rf⟩, by rw [e49]; exact fun _ => ⟨AGK.rf, rfl⟩⟩
  have hW : Fw Sno (fun _ _ => False) M M2 := hF.fw
  have hn := hF.1
  have hz := hF.2.1
  obtain ⟨⟨hC, hM, hK, ⟨vt, vo, vh⟩, hO1⟩, i2, i3, i4, i5, ⟨p1, p2, p3, k, p4, p5, p6, p7⟩, i7, i8⟩ := id h
  have hR2 : REL M2 := by
    refine ⟨hC.fr hF, hM.fr hF, by rw [e49]; exact hK, by
      rw [e49]
      refine ⟨fun t ht => ?_, ?_, fun n g h1 h2 h3 => ?_⟩
      · rw [e 2 t (by unfold Sno; omega), e 3 t (by unfold Sno; omega), e 4 t (by unfold Sno; omega)]
        exact vt t ht
      · unfold CVo
        rw [e 1 8 (by unfold Sno; omega), e 1 9 (by unfold Sno; omega), e 1 10 (by unfold Sno; omega), e 1 11 (by unfold Sno; omega), e 1 12 (by unfold Sno; omega)]
        exact vo
      · rw [e 5 g (by unfold Sno; omega), e 6 g (by unfold Sno; omega), e 7 g (by unfold Sno; omega), e 8 g (by unfold Sno; omega)]
        exact vh n g h1 h2 h3, hO⟩
  have hP : SMP M2 := by
    refine ⟨by rw [e 0 13 (by unfold Sno; omega), e 47 12 (by unfold Sno; omega)]; exact p1, h14, h15, k, p4, by rw [e 0 11 (by unfold Sno; omega)]; exact p5, by rw [e 47 57 (by unfold Sno; omega)]; exact p6, fun i hi => ?_⟩
    rw [e 46 i (by unfold Sno; omega), e 77 i (by unfold Sno; omega)]
    exact p7 i hi
  have hL : LWS M2 9 (mI M2 49) := by
    rw [e49]
    exact i7.fw (by omega) hW (fun a k w q => by have := q.1; unfold Sno at w; omega) (fun _ _ w => w.elim) (fun _ _ _ _ _ _ => rfl)
  refine ⟨INV0.step hc h hR2 hq hW (by omega) (fun a k w => ⟨by unfold Sno at w; omega, by unfold Sno at w; omega, by unfold Sno at w; omega, by unfold Sno at w; omega, by unfold Sno at w; omega, fun q => by have := q.1; unfold Sno at w; omega⟩) (fun _ _ w => w.elim) hT hP hL, hW.up (fun a k w => Or.inl (by unfold Sno at w; omega)) (fun _ _ w => w.elim), by omega, by omega, hq⟩
