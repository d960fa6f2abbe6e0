/-! the reference works out PARTS -/
theorem rc_lw : ∀ w, w < 8 → rc (272 + w) = 7 + w := by decide
theorem rc_ow : ∀ w, w < 4 → rc (280 + w) = 15 + w := by decide
section
variable {T : Nat → Nat} {len : Nat} {ord : Bool} {d : Nat}
theorem RQ_of {M M2 : Mem} {live : Bool} {v : Int} (h28 : mI M2 47 28 = mI M 47 28) {q : Mem × Int64} (h1 : live = true → mI M 47 28 = 0 → q = (M2, jj v)) (h2 : ¬ (live = true ∧ mI M 47 28 = 0) → q = (M2, 0)) : RQ M live (some v) q := by
  unfold RQ
  by_cases h : live = true ∧ mI M 47 28 = 0
  · rw [if_pos h, h1 h.1 h.2]
    exact ⟨rfl, by rw [h28]; exact h.2⟩
  · rw [if_neg h, h2 h]
    exact ⟨rfl, h28⟩
theorem RS_num (hT : ∀ j, len ≤ j → T j = 256) {k : Nat} (hk : k < len) (h1 : 1000 ≤ T k) (h2 : T k ≤ 2000) : RSV (f_X12_partOf (d + 1)) T len ord k (k + 1) (fun _ => some ((T k - 1000 : Nat) : Int)) := by
  intro M B W hE hg hb live
  have hE0 := hE
  have e50 : rc (T k) = 50 := rc_num.mpr (by omega)
  have hp := r_passes hT hE (c := 191) (Nat.le_of_lt hk) hg (by omega)
  have hca := r_codeAt hT hE (Nat.le_of_lt hk)
  rw [e50] at hp hca
  rw [if_neg (by decide)] at hp
  obtain ⟨hM, hB, -, hC, h29, -⟩ := hE0
  have hval := (hC k hk).2 h1 h2
  show TT (b_X12_partOf (f_X12_sumOf d) M 47 (b1 live)) _
  unfold b_X12_partOf f_X12_sign
  unfold LayM at hM
  simp only [Option.bind_some, show (100 + 91 : Int32) = nI 191 from rfl, hM, grd_T, hp, hg, hca, bv, if_true, nsucc]
  have n10 : ¬ nI 50 = 10 := by decide
  have n11 : ¬ nI 50 = 11 := by decide
  simp only [n10, n11, if_false, ite_self, mI_wI_ne (show (29 : Nat) ≠ 26 by decide), mI_wI_ne (show (28 : Nat) ≠ 26 by decide), mI_wIs, mR_wI, ok_wI, mL_wI, hM, grd_T, Option.bind_some]
  have ei : (2866 + nI (B + k + 1)) - 1 = nI (2866 + B + k) := by
    rw [show (2866 : Int32) = nI 2866 from rfl, show (1 : Int32) = nI 1 from rfl, nadd, nsub (by omega)]
    congr 1
    omega
  have hfr : Fr Sgo M (wI M 47 26 (nI (B + k + 1))) := Fr.rf.wI Sgo26
  rw [ei, grd_y ((nvp (by omega)).mpr (by omega)), nclampI (by omega), mI_wI_row (by decide), hval, if_pos (show nI 50 = 50 from rfl)]
  have ev : (nI (T k - 1000)).toInt64 = jj ((T k - 1000 : Nat) : Int) := by
    rw [jj_i, nI_tI (by omega)]
  rw [ev]
  have e28 : mI (wI M 47 26 (nI (B + k + 1))) 47 28 = mI M 47 28 := mI_wI_ne (by decide)
  cases live with
  | false =>
    rw [if_pos (show b1 false = 0 from rfl), TT_some]
    exact ⟨hfr, mI_wIs, RQ_of e28 (fun w => by cases w) (fun _ => rfl)⟩
  | true =>
    rw [if_neg (show ¬ b1 true = 0 by decide), TT_if, TT_some, TT_some]
    refine ⟨fun w => ⟨hfr, mI_wIs, RQ_of e28 (fun _ _ => rfl) (fun w2 => absurd ⟨rfl, w⟩ w2)⟩, fun w => ⟨hfr, mI_wIs, RQ_of e28 (fun _ w2 => absurd w2 w) (fun _ => rfl)⟩⟩
theorem RS_law (hT : ∀ j, len ≤ j → T j = 256) {k w : Nat} (hk : k < len) (hw : w < 8) (h1 : T k = 272 + w) : RSV (f_X12_partOf (d + 1)) T len false k (k + 1) (fun W => some (W w).toInt) := by
  intro M B W hE hg hb live
  have hE0 := hE
  have e50 : rc (T k) = 7 + w := by rw [h1]; exact rc_lw w hw
  have hp := r_passes hT hE (c := 191) (Nat.le_of_lt hk) hg (by omega)
  have hca := r_codeAt hT hE (Nat.le_of_lt hk)
  rw [e50] at hp hca
  rw [if_neg (by omega)] at hp
  obtain ⟨hM, hB, -, hC, h29, hWE⟩ := hE0
  have hval := hWE w hw
  show TT (b_X12_partOf (f_X12_sumOf d) M 47 (b1 live)) _
  unfold b_X12_partOf f_X12_sign
  unfold LayM at hM
  simp only [Option.bind_some, show (100 + 91 : Int32) = nI 191 from rfl, hM, grd_T, hp, hg, hca, bv, if_true, nsucc, mI_wI_ne (show (29 : Nat) ≠ 26 by decide), h29, show b1 false = 0 from rfl]
  simp only [mI_wI_ne (show (28 : Nat) ≠ 26 by decide), mI_wIs, mR_wI, ok_wI, mL_wI, hM, grd_T, Option.bind_some, mI_wI_ne (show (29 : Nat) ≠ 26 by decide), h29, show b1 false = 0 from rfl, if_true]
  have ei : nI (7 + w) - 7 = nI w := by
    rw [show (7 : Int32) = nI 7 from rfl, nsub (by omega)]
    congr 1
    omega
  have hfr : Fr Sgo M (wI M 47 26 (nI (B + k + 1))) := Fr.rf.wI Sgo26
  have n50 : ¬ nI (7 + w) = 50 := by
    rw [show (50 : Int32) = nI 50 from rfl, neqI (by omega) (by omega)]
    omega
  rw [ei, if_neg n50, grd_y ((nvp (by omega)).mpr (by omega)), nclampI (by omega), mI_wI_row (by decide), hval, jj_i]
  have e28 : mI (wI M 47 26 (nI (B + k + 1))) 47 28 = mI M 47 28 := mI_wI_ne (by decide)
  cases live with
  | false =>
    rw [if_pos (show b1 false = 0 from rfl), TT_some]
    exact ⟨hfr, mI_wIs, RQ_of e28 (fun w => by cases w) (fun _ => rfl)⟩
  | true =>
    rw [if_neg (show ¬ b1 true = 0 by decide), TT_if, TT_some, TT_some]
    refine ⟨fun w => ⟨hfr, mI_wIs, RQ_of e28 (fun _ _ => rfl) (fun w2 => absurd ⟨rfl, w⟩ w2)⟩, fun w => ⟨hfr, mI_wIs, RQ_of e28 (fun _ w2 => absurd w2 w) (fun _ => rfl)⟩⟩
theorem RS_ord (hT : ∀ j, len ≤ j → T j = 256) {k w : Nat} (hk : k < len) (hw : w < 4) (h1 : T k = 280 + w) : RSV (f_X12_partOf (d + 1)) T len true k (k + 1) (fun W => some (W w).toInt) := by
  intro M B W hE hg hb live
  have hE0 := hE
  have e50 : rc (T k) = 15 + w := by rw [h1]; exact rc_ow w hw
  have hp := r_passes hT hE (c := 191) (Nat.le_of_lt hk) hg (by omega)
  have hca := r_codeAt hT hE (Nat.le_of_lt hk)
  rw [e50] at hp hca
  rw [if_neg (by omega)] at hp
  obtain ⟨hM, hB, -, hC, h29, hWE⟩ := hE0
  have hval := hWE.1 w hw
  show TT (b_X12_partOf (f_X12_sumOf d) M 47 (b1 live)) _
  unfold b_X12_partOf f_X12_sign
  unfold LayM at hM
  have n50 : ¬ nI (15 + w) = 50 := by
    rw [show (50 : Int32) = nI 50 from rfl, neqI (by omega) (by omega)]
    omega
  have n10 : ¬ nI (15 + w) = 10 := by
    rw [show (10 : Int32) = nI 10 from rfl, neqI (by omega) (by omega)]
    omega
  have n11 : ¬ nI (15 + w) = 11 := by
    rw [show (11 : Int32) = nI 11 from rfl, neqI (by omega) (by omega)]
    omega
  have nt : ¬ b1 true = 0 := by decide
  simp only [Option.bind_some, show (100 + 91 : Int32) = nI 191 from rfl, hM, grd_T, hp, hg, hca, bv, if_true, nsucc, n10, n11, n50, if_false, ite_self, mI_wI_ne (show (29 : Nat) ≠ 26 by decide), h29, nt]
  simp only [mI_wI_ne (show (28 : Nat) ≠ 26 by decide), mI_wIs, mR_wI, ok_wI, mL_wI, hM, grd_T, Option.bind_some, mI_wI_ne (show (29 : Nat) ≠ 26 by decide), h29, nt, if_false]
  have ei : nI (15 + w) - 15 = nI w := by
    rw [show (15 : Int32) = nI 15 from rfl, nsub (by omega)]
    congr 1
    omega
  have hfr : Fr Sgo M (wI M 47 26 (nI (B + k + 1))) := Fr.rf.wI Sgo26
  rw [ei, grd_y ((nvp (by omega)).mpr (by omega)), nclampI (by omega), mI_wI_row (by decide), hval, jj_i]
  have e28 : mI (wI M 47 26 (nI (B + k + 1))) 47 28 = mI M 47 28 := mI_wI_ne (by decide)
  cases live with
  | false =>
    rw [if_pos (show b1 false = 0 from rfl), TT_some]
    exact ⟨hfr, mI_wIs, RQ_of e28 (fun w => by cases w) (fun _ => rfl)⟩
  | true =>
    rw [if_neg (show ¬ b1 true = 0 by decide), TT_if, TT_some, TT_some]
    refine ⟨fun w => ⟨hfr, mI_wIs, RQ_of e28 (fun _ _ => rfl) (fun w2 => absurd ⟨rfl, w⟩ w2)⟩, fun w => ⟨hfr, mI_wIs, RQ_of e28 (fun _ w2 => absurd w2 w) (fun _ => rfl)⟩⟩
end
