/-! the calls that were done before, with the invariant -/
theorem CALL.of {c : Nat} (hc : c < 600) {M : Mem} (h : INV0 c M) {f g : Mem → Option (Mem × Int32)} (hb : BOTH M f g) : CALL c M f g := by
  obtain ⟨M1, M2, x, e1, e2, hR2, hF, hS, hV⟩ := hb
  refine ⟨M1, M2, x, e1, e2, ?_⟩
  have hW : Fw Ssm (fun _ _ => False) M M2 := hF.fw
  have e : ∀ a k, ¬ Ssm a k → mI M2 a k = mI M a k := fun a k w => hF.i w
  have hn := hF.1
  have hz := hF.2.1
  have k49 : ∀ k, 59 ≤ k ∨ k = 57 → mI M2 49 k = mI M 49 k := fun k w => e 49 k (by unfold Ssm; omega)
  obtain ⟨lc, hlc, h57, h58⟩ := h.1.2.2.1.2.2.1
  have ag3 : (∀ k, (k < 18 ∨ k = 55 ∨ 57 ≤ k) → mI M2 49 k = mI M 49 k) → AGK (mI M 49) (mI M2 49) := fun w => ⟨⟨fun t ht => w t (by omega), w 55 (by omega), w 58 (by omega), fun g hg _ => ⟨w _ (by omega), fun j hj => ⟨w _ (by omega), w _ (by omega)⟩⟩⟩, fun k hk => w k (by omega)⟩
  have z0 : ∀ x : Int32, x = x + nI 0 := fun x => (Int32.add_zero x).symm
  have hq : QST M M2 := by
    rcases hS with ⟨s1, s2, s3⟩ | ⟨s1, s2⟩ | ⟨s1, s2, s3⟩
    · rcases hV with ⟨v1, v2⟩ | v2
      · exact ⟨0, 0, 0, by omega, by omega, by omega, by rw [s2]; exact z0 _, by rw [s3]; exact z0 _, by rw [v2]; exact z0 _, by rw [s1]; exact fun _ => AGK.rf, by rw [s1]; exact fun _ => ⟨AGK.rf, YHK.rf⟩, by rw [s1]; exact fun _ => ⟨AGK.rf, rfl⟩⟩
      · exact ⟨0, 0, 1, by omega, by omega, by omega, by rw [s2]; exact z0 _, by rw [s3]; exact z0 _, v2, by rw [s1]; exact fun _ => AGK.rf, by rw [s1]; exact fun _ => ⟨AGK.rf, YHK.rf⟩, fun w => by omega⟩
    · rcases hV with ⟨v1, v2⟩ | v2
      · exact ⟨1, 1, 0, by omega, by omega, by omega, s1, s2, by rw [v2]; exact z0 _, fun w => by omega, fun w => by omega, by rw [v1]; exact fun _ => ⟨AGK.rf, rfl⟩⟩
      · exact ⟨1, 1, 1, by omega, by omega, by omega, s1, s2, v2, fun w => by omega, fun w => by omega, fun w => by omega⟩
    · rcases hV with ⟨v1, v2⟩ | v2
      · exact ⟨0, 1, 0, by omega, by omega, by omega, by rw [s1]; exact z0 _, s2, by rw [v2]; exact z0 _, fun _ => ag3 s3, fun w => by omega, by rw [v1]; exact fun _ => ⟨AGK.rf, rfl⟩⟩
      · exact ⟨0, 1, 1, by omega, by omega, by omega, by rw [s1]; exact z0 _, s2, v2, fun _ => ag3 s3, fun w => by omega, fun w => by omega⟩
  obtain ⟨i1, i2, ⟨n, bt, t1, t2, t3, t4⟩, i4, i5, ⟨p1, p2, p3, k, p4, p5, p6, p7⟩, i7, i8⟩ := id h
  have h78 := i2.1
  have hht : ∀ a k, Ssm a k → ¬ HT M a := fun a k w q => by have := q.1; unfold Ssm at w; omega
  refine ⟨INV0.step hc h hR2 hq hW (by omega) (fun a k w => ⟨by unfold Ssm at w; omega, by unfold Ssm at w; omega, by unfold Ssm at w; omega, by unfold Ssm at w; omega, by unfold Ssm at w; omega, hht a k w⟩) (fun _ _ w => w.elim) ⟨n, bt, t1, by rw [e 11 4 (by unfold Ssm; omega)]; exact t2, by rw [e 47 17 (by unfold Ssm; omega)]; exact t3, fun i hi => by rw [e 12 i (by unfold Ssm; omega), e 56 i (by unfold Ssm; omega)]; exact t4 i hi⟩ ⟨by rw [e 0 13 (by unfold Ssm; omega), e 47 12 (by unfold Ssm; omega)]; exact p1, by rw [e 0 14 (by unfold Ssm; omega), e 47 18 (by unfold Ssm; omega)]; exact p2, by rw [e 0 15 (by unfold Ssm; omega), e 47 46 (by unfold Ssm; omega)]; exact p3, k, p4, by rw [e 0 11 (by unfold Ssm; omega)]; exact p5, by rw [e 47 57 (by unfold Ssm; omega)]; exact p6, fun i hi => by rw [e 46 i (by unfold Ssm; omega), e 77 i (by unfold Ssm; omega)]; exact p7 i hi⟩ (i7.fw (by omega) hW hht (fun _ _ w => w.elim) (fun k w1 w2 w3 w4 w5 => k49 k (by omega))), hW.up (fun a k w => Or.inl (by unfold Ssm at w; omega)) (fun _ _ w => w.elim), by omega, by omega, hq⟩
theorem both_endC {c : Nat} (hc : c < 600) {M : Mem} (h : INV0 c M) (p : Int32) : CALL c M (fun M => f_X11_end M 0 p) (fun M => f_X12_end M 47 p) := by
  obtain ⟨n, bt, t1, t2, t3, t4⟩ := h.2.2.1
  rcases both_end h.1.1 h.1.2.1 t1 t2 t3 p with ⟨e1, e2⟩ | ⟨m, hm, rfl, e1, e2⟩
  · exact CALL.same h e1 e2
  · have hF : Fr Sno M (wI (wI M 11 4 (nI m)) 47 17 (nI m)) := (Fr.rf.wI (by unfold Sno; omega)).wI (by unfold Sno; omega)
    have v : ∀ a k, ¬ (a = 11 ∧ k = 4) → ¬ (a = 47 ∧ k = 17) → mI (wI (wI M 11 4 (nI m)) 47 17 (nI m)) a k = mI M a k := fun a k w1 w2 => by rw [mI_wI, if_neg w2, mI_wI, if_neg w1]
    refine ⟨_, _, _, e1, e2, INV0.refused hc h hF ⟨?_, fun k hk => ?_⟩ ⟨m, bt, by omega, ?_, mI_wIs, fun i hi => ?_⟩ ?_ ?_⟩
    · rw [v 0 12 (by omega) (by omega), v 47 0 (by omega) (by omega)]
      exact h.1.2.2.2.2.1
    · rw [v 45 _ (by omega) (by omega), v 48 _ (by omega) (by omega)]
      exact h.1.2.2.2.2.2 k hk
    · rw [mI_wI_row (by decide), mI_wIs]
    · rw [v 12 i (by omega) (by omega), v 56 i (by omega) (by omega)]
      exact t4 i (by omega)
    · rw [v 0 14 (by omega) (by omega), v 47 18 (by omega) (by omega)]
      exact h.2.2.2.2.2.1.2.1
    · rw [v 0 15 (by omega) (by omega), v 47 46 (by omega) (by omega)]
      exact h.2.2.2.2.2.1.2.2.1
