/-! PARTS with a house, and in brackets -/
section
variable {T : Nat → Nat} {len : Nat} {ord : Bool} {d : Nat}
theorem rc_275 : rc 275 = 10 := by decide
theorem rc_276 : rc 276 = 11 := by decide
theorem RS_long (hT : ∀ j, len ≤ j → T j = 256) {k h : Nat} (hk : k + 1 < len) (hh : h < 12) (h1 : T k = 275) (h2 : T (k + 1) = 1000 + h) : RSV (f_X12_partOf (d + 1)) T len true k (k + 2) (fun W => some (W (4 + h)).toInt) := by
  intro M B W hE hg hb live
  have hE0 := hE
  have e50 : rc (T k) = 10 := by rw [h1]; exact rc_275
  have hp := r_passes hT hE (c := 191) (show k ≤ len by omega) hg (by omega)
  have hca := r_codeAt hT hE (show k ≤ len by omega)
  rw [e50] at hp hca
  rw [if_neg (by omega)] at hp
  obtain ⟨hM, hB, -, hC, h29, hWE⟩ := hE0
  have hM0 := hM
  have hval := (hC (k + 1) hk).2 (by omega) (by omega)
  rw [h2, show 1000 + h - 1000 = h by omega] at hval
  obtain ⟨-, n, hn, h56, hH⟩ := hWE
  obtain ⟨hin, hout⟩ := hH h hh
  show TT (b_X12_partOf (f_X12_sumOf d) M 47 (b1 live)) _
  unfold b_X12_partOf f_X12_sign
  unfold LayM at hM
  have n50 : ¬ nI 10 = 50 := by decide
  have n10 : (nI 10 = 10) = True := by simp only [show nI 10 = 10 from rfl]
  have n11 : ¬ nI 10 = 11 := by decide
  have nt : ¬ b1 true = 0 := by decide
  simp only [Option.bind_some, show (100 + 91 : Int32) = nI 191 from rfl, hM, grd_T, hp, hg, hca, bv, if_true, nsucc, n10, n11, n50, if_false, mI_wI_ne (show (29 : Nat) ≠ 26 by decide), h29, nt, mR_wI, ok_wI, mL_wI, mI_wIs]
  have ei : (2866 : Int32) + nI (B + k + 1) = nI (2866 + B + (k + 1)) := by
    rw [show (2866 : Int32) = nI 2866 from rfl, nadd]
    congr 1
    omega
  rw [ei, grd_y ((nvp (by omega)).mpr (by omega)), nclampI (by omega)]
  simp only [mI_wI_row (show (49 : Nat) ≠ 47 by decide), hval, mI_wI_ne (show (28 : Nat) ≠ 26 by decide)]
  generalize hM2 : wI (wI M 47 26 (nI (B + k + 1))) 47 26 (nI (B + k + 1 + 1)) = M2
  have hfr : Fr Sgo M M2 := by rw [← hM2]; exact (Fr.rf.wI Sgo26).wI Sgo26
  have hgo : mI M2 47 26 = nI (B + (k + 2)) := by rw [← hM2]; exact mI_wIs
  have e28 : mI M2 47 28 = mI M 47 28 := by rw [← hM2, mI_wI_ne (by decide), mI_wI_ne (by decide)]
  have k49 : ∀ j, mI M2 49 j = mI M 49 j := fun j => hfr.i (by unfold Sgo; omega)
  have key : (Option.bind (f_X12_isHouse M2 47 (nI h)) (fun q39 => if q39 = 0 then (some (M2, (-1 : Int64))) else (Option.bind (f_X12_fact M2 47 (nI h) 2) (fun q42 => Option.bind (f_X12_longOf q42) (fun q45 => some (M2, q45.toInt64)))))) = some (M2, jj (W (4 + h)).toInt) := by
    rw [r_isHouse (hM0.fr hfr) hn (by rw [k49]; exact h56), Option.bind_some]
    by_cases q : h < n
    · obtain ⟨l, hl, g1, g2, -⟩ := hin q
      rw [if_pos (show 0 ≤ nI h ∧ nI h < nI n from ⟨by rw [show (0 : Int32) = nI 0 from rfl, nleI (by omega) (by omega)]; omega, by rw [nltI (by omega) (by omega)]; exact q⟩), if_neg (by decide), show (2 : Int32) = nI 2 from rfl, r_fact (hM0.fr hfr) (by omega) (by omega), Option.bind_some, show 18 + 3 * h + 2 = 20 + 3 * h by omega, k49, g1, p_longOf' hl, Option.bind_some, g2, jj_i]
    · rw [if_neg (show ¬ (0 ≤ nI h ∧ nI h < nI n) from fun w => q ((nltI (by omega) (by omega)).mp w.2)), if_pos rfl, (hout (by omega)).1]
      rfl
  rw [key]
  cases live with
  | false =>
    rw [if_pos (show b1 false = 0 from rfl), TT_some]
    exact ⟨hfr, hgo, RQ_of e28 (fun w => by cases w) (fun _ => rfl)⟩
  | true =>
    rw [if_neg (show ¬ b1 true = 0 by decide), TT_if, TT_some, TT_some]
    refine ⟨fun w => ⟨hfr, hgo, RQ_of e28 (fun _ _ => rfl) (fun w2 => absurd ⟨rfl, w⟩ w2)⟩, fun w => ⟨hfr, hgo, RQ_of e28 (fun _ w2 => absurd w2 w) (fun _ => rfl)⟩⟩
theorem RS_has (hT : ∀ j, len ≤ j → T j = 256) {k h t : Nat} (hk : k + 2 < len) (hh : h < 12) (ht : t < 6) (h1 : T k = 276) (h2 : T (k + 1) = 1000 + h) (h3 : T (k + 2) = 1000 + t) : RSV (f_X12_partOf (d + 1)) T len true k (k + 3) (fun W => some (W (16 + h * 6 + t)).toInt) := by
  intro M B W hE hg hb live
  have hE0 := hE
  have e50 : rc (T k) = 11 := by rw [h1]; exact rc_276
  have hp := r_passes hT hE (c := 191) (show k ≤ len by omega) hg (by omega)
  have hca := r_codeAt hT hE (show k ≤ len by omega)
  rw [e50] at hp hca
  rw [if_neg (by omega)] at hp
  obtain ⟨hM, hB, -, hC, h29, hWE⟩ := hE0
  have hM0 := hM
  have hval := (hC (k + 1) (by omega)).2 (by omega) (by omega)
  rw [h2, show 1000 + h - 1000 = h by omega] at hval
  have hval2 := (hC (k + 2) (by omega)).2 (by omega) (by omega)
  rw [h3, show 1000 + t - 1000 = t by omega] at hval2
  obtain ⟨-, n, hn, h56, hH⟩ := hWE
  obtain ⟨hin, hout⟩ := hH h hh
  show TT (b_X12_partOf (f_X12_sumOf d) M 47 (b1 live)) _
  unfold b_X12_partOf f_X12_sign
  unfold LayM at hM
  have n50 : ¬ nI 11 = 50 := by decide
  have n11 : (nI 11 = 11) = True := by simp only [show nI 11 = 11 from rfl]
  have n10 : ¬ nI 11 = 10 := by decide
  have nt : ¬ b1 true = 0 := by decide
  simp only [Option.bind_some, show (100 + 91 : Int32) = nI 191 from rfl, hM, grd_T, hp, hg, hca, bv, if_true, nsucc, n10, n11, n50, if_false, mI_wI_ne (show (29 : Nat) ≠ 26 by decide), h29, nt, mR_wI, ok_wI, mL_wI, mI_wIs]
  have ei : (2866 : Int32) + nI (B + k + 1) = nI (2866 + B + (k + 1)) := by
    rw [show (2866 : Int32) = nI 2866 from rfl, nadd]
    congr 1
    omega
  have ei2 : (2866 : Int32) + nI (B + k + 1 + 1) = nI (2866 + B + (k + 2)) := by
    rw [show (2866 : Int32) = nI 2866 from rfl, nadd]
    congr 1
    omega
  rw [ei, grd_y ((nvp (by omega)).mpr (by omega)), nclampI (by omega), ei2, grd_y ((nvp (by omega)).mpr (by omega)), nclampI (by omega)]
  simp only [mI_wI_row (show (49 : Nat) ≠ 47 by decide), hval, hval2, mI_wI_ne (show (28 : Nat) ≠ 26 by decide)]
  generalize hM2 : wI (wI (wI M 47 26 (nI (B + k + 1))) 47 26 (nI (B + k + 1 + 1))) 47 26 (nI (B + k + 1 + 1 + 1)) = M2
  have hfr : Fr Sgo M M2 := by rw [← hM2]; exact ((Fr.rf.wI Sgo26).wI Sgo26).wI Sgo26
  have hgo : mI M2 47 26 = nI (B + (k + 3)) := by rw [← hM2]; exact mI_wIs
  have e28 : mI M2 47 28 = mI M 47 28 := by rw [← hM2, mI_wI_ne (by decide), mI_wI_ne (by decide), mI_wI_ne (by decide)]
  have k49 : ∀ j, mI M2 49 j = mI M 49 j := fun j => hfr.i (by unfold Sgo; omega)
  have key : (Option.bind (f_X12_isHouse M2 47 (nI h)) (fun q30 => if q30 = 0 then (some (M2, (-1 : Int64))) else (Option.bind (f_X12_fact M2 47 (nI h) 2) (fun q33 => Option.bind (f_X12_has 47 q33 (nI t)) (fun q36 => some (M2, q36.toInt64)))))) = some (M2, jj (W (16 + h * 6 + t)).toInt) := by
    rw [r_isHouse (hM0.fr hfr) hn (by rw [k49]; exact h56), Option.bind_some]
    by_cases q : h < n
    · obtain ⟨l, hl, g1, -, g2⟩ := hin q
      rw [if_pos (show 0 ≤ nI h ∧ nI h < nI n from ⟨by rw [show (0 : Int32) = nI 0 from rfl, nleI (by omega) (by omega)]; omega, by rw [nltI (by omega) (by omega)]; exact q⟩), if_neg (by decide), show (2 : Int32) = nI 2 from rfl, r_fact (hM0.fr hfr) (by omega) (by omega), Option.bind_some, show 18 + 3 * h + 2 = 20 + 3 * h by omega, k49, g1, p_has' hl ht, Option.bind_some, g2 t ht, jj_i]
    · rw [if_neg (show ¬ (0 ≤ nI h ∧ nI h < nI n) from fun w => q ((nltI (by omega) (by omega)).mp w.2)), if_pos rfl, (hout (by omega)).2 t ht]
      rfl
  rw [key]
  cases live with
  | false =>
    rw [if_pos (show b1 false = 0 from rfl), TT_some]
    exact ⟨hfr, hgo, RQ_of e28 (fun w => by cases w) (fun _ => rfl)⟩
  | true =>
    rw [if_neg (show ¬ b1 true = 0 by decide), TT_if, TT_some, TT_some]
    refine ⟨fun w => ⟨hfr, hgo, RQ_of e28 (fun _ _ => rfl) (fun w2 => absurd ⟨rfl, w⟩ w2)⟩, fun w => ⟨hfr, hgo, RQ_of e28 (fun _ w2 => absurd w2 w) (fun _ => rfl)⟩⟩
theorem RG.next {M M1 : Mem} {live : Bool} {B k : Nat} {v : Option Int} (hF : Fr Sgo M M1) (h28 : mI M1 47 28 = mI M 47 28) {q : Mem × Int64} (h : RG M1 live B k v q) : RG M live B k v q := by
  obtain ⟨a, b, c⟩ := h
  refine ⟨hF.tr a, b, ?_⟩
  unfold RQ at c ⊢
  rw [h28] at c
  exact c
theorem RS_sq (hT : ∀ j, len ≤ j → T j = 256) {k k1 : Nat} {val : (Nat → Int32) → Option Int} (hk : k < len) (h1 : T k = 91) (hs : RSV (f_X12_sumOf d) T len ord (k + 1) k1 val) : RSV (f_X12_partOf (d + 1)) T len ord k (k1 + 1) val := by
  intro M B W hE hg hb live
  have hE0 := hE
  have e50 : rc (T k) = 191 := by rw [h1]; decide
  have hp := r_passes hT hE (c := 191) (show k ≤ len by omega) hg (by omega)
  rw [e50, if_pos rfl] at hp
  obtain ⟨hM, hB, -, hC, h29, hWE⟩ := hE0
  show TT (b_X12_partOf (f_X12_sumOf d) M 47 (b1 live)) _
  unfold b_X12_partOf f_X12_sign
  unfold LayM at hM
  simp only [Option.bind_some, show (100 + 91 : Int32) = nI 191 from rfl, hM, grd_T, hp, bv]
  have hfr : Fr Sgo M (wI M 47 26 (nI (B + (k + 1)))) := Fr.rf.wI Sgo26
  have e28 : mI (wI M 47 26 (nI (B + (k + 1)))) 47 28 = mI M 47 28 := mI_wI_ne (by decide)
  rw [if_neg (by decide), TT_bind]
  refine (hs _ B W (hE.fr hfr) mI_wIs (by rw [e28]; exact hb) live).mono ?_
  intro q hq
  obtain ⟨a, b, c⟩ := hq.next hfr e28
  rw [TT_some, b, nsucc]
  refine ⟨a.wI Sgo26, mI_wIs, ?_⟩
  have e : mI (wI q.1 47 26 (nI (B + k1 + 1))) 47 28 = mI q.1 47 28 := mI_wI_ne (by decide)
  unfold RQ at c ⊢
  simp only
  rw [e]
  exact c
end
