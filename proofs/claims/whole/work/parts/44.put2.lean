/-! put, of: class and reference together -/
def Ssm (a k : Nat) : Prop := (a = 0 ∧ k = 12) ∨ (1 ≤ a ∧ a ≤ 8) ∨ a = 45 ∨ (a = 47 ∧ k ≤ 1) ∨ a = 48 ∨ (a = 49 ∧ k < 59 ∧ k ≠ 57)
/-- how the kept row and the two stamps go on -/
def STM (M M2 : Mem) : Prop := (mI M2 49 = mI M 49 ∧ mI M2 1 13 = mI M 1 13 ∧ mI M2 1 14 = mI M 1 14) ∨ (mI M2 1 13 = mI M 1 13 + 1 ∧ mI M2 1 14 = mI M 1 14 + 1) ∨ (mI M2 1 13 = mI M 1 13 ∧ mI M2 1 14 = mI M 1 14 + 1 ∧ ∀ k, (k < 18 ∨ k = 55 ∨ 57 ≤ k) → mI M2 49 k = mI M 49 k)
def VER (M M2 : Mem) : Prop := (mI M2 49 = mI M 49 ∧ mI M2 47 1 = mI M 47 1) ∨ mI M2 47 1 = mI M 47 1 + 1
def STP (M M2 : Mem) : Prop := REL M2 ∧ Fr Ssm M M2 ∧ STM M M2 ∧ VER M M2
def BOTH (M : Mem) (f : Mem → Option (Mem × Int32)) (g : Mem → Option (Mem × Int32)) : Prop := ∃ M1 M2 x, f M = some (M1, x) ∧ g M1 = some (M2, x) ∧ STP M M2
theorem Srf_sm : ∀ a k, Srf a k → Ssm a k := fun a k h => by
  unfold Srf at h
  unfold Ssm
  omega
theorem STP.refuse {M : Mem} (h : REL M) {n : Nat} (hn : RN n) : STP M (RFM (RFC M n) n) := by
  have hF := fr_rf (M := M) (n := n)
  have k49 : mI (RFM (RFC M n) n) 49 = mI M 49 := funext (fun k => hF.i (by unfold Srf; omega))
  have k47 : mI (RFM (RFC M n) n) 47 1 = mI M 47 1 := by
    unfold RFM RFC
    rw [mI_wI_row (a := 48) (by decide), mI_wI_ne (by decide), mI_wI_row (a := 45) (by decide), mI_wI_row (a := 0) (by decide)]
  exact ⟨h.refuse hn, hF.up Srf_sm, Or.inl ⟨k49, hF.i (by unfold Srf; omega), hF.i (by unfold Srf; omega)⟩, Or.inl ⟨k49, k47⟩⟩
theorem LayM.rfc {M : Mem} (h : LayM M) {n : Nat} : LayM (RFC M n) := h.w.w
theorem LayM.putc {M : Mem} (h : LayM M) {t w : Nat} {v : Int32} : LayM (PUTC M t w v) := h.w.w.w.w
theorem fr_put {M : Mem} {t w : Nat} {v : Int32} (ht : t < 6) (hw : w ≤ 2) : Fr Ssm M (PUTM (PUTC M t w v) t w v) := by
  unfold PUTM
  have h1 : Fr Ssm M (PUTC M t w v) := (((Fr.rf.wI (show Ssm (2 + w) t from Or.inr (Or.inl (by omega)))).wI (show Ssm 1 13 from Or.inr (Or.inl (by omega)))).wI (show Ssm 1 14 from Or.inr (Or.inl (by omega)))).wI (show Ssm 0 12 from Or.inl (by omega))
  exact ((h1.wI (show Ssm 49 (6 * w + t) by unfold Ssm; omega)).wI (show Ssm 47 0 by unfold Ssm; omega)).wI (show Ssm 47 1 by unfold Ssm; omega)
theorem put_49 {M : Mem} {t w : Nat} {v : Int32} (hw : w ≤ 2) (k : Nat) : mI (PUTM (PUTC M t w v) t w v) 49 k = if k = 6 * w + t then v else mI M 49 k := by
  unfold PUTM PUTC TR
  rw [mI_wI_row (by decide), mI_wI_row (by decide)]
  by_cases h : k = 6 * w + t
  · subst h
    rw [mI_wIs, if_pos rfl]
  · rw [mI_wI_ne h, if_neg h, mI_wI_row (by decide), mI_wI_row (by decide), mI_wI_row (by decide), mI_wI_row (by omega)]
theorem put_c {M : Mem} {t w : Nat} {v : Int32} {r u : Nat} (hr : 2 ≤ r) (hr2 : r ≤ 8) : mI (PUTM (PUTC M t w v) t w v) r u = if r = 2 + w ∧ u = t then v else mI M r u := by
  unfold PUTM PUTC TR
  rw [mI_wI_row (by omega), mI_wI_row (by omega), mI_wI_row (by omega), mI_wI_row (by omega), mI_wI_row (by omega), mI_wI_row (by omega), mI_wI]
theorem put_1 {M : Mem} {t w : Nat} {v : Int32} : mI (PUTM (PUTC M t w v) t w v) 1 13 = mI M 1 13 + 1 ∧ mI (PUTM (PUTC M t w v) t w v) 1 14 = mI M 1 14 + 1 ∧ ∀ k, k ≤ 12 → mI (PUTM (PUTC M t w v) t w v) 1 k = mI M 1 k := by
  unfold PUTM PUTC TR
  rw [mI_wI_row (a := 47) (b := 1) (by decide), mI_wI_row (a := 47) (b := 1) (by decide), mI_wI_row (a := 49) (b := 1) (by decide), mI_wI_row (a := 0) (b := 1) (by decide)]
  refine ⟨?_, ?_, fun k hk => ?_⟩
  · rw [mI_wI_ne (by decide), mI_wIs, mI_wI_row (by omega)]
  · rw [mI_wIs, mI_wI_row (by omega)]
  · rw [mI_wI_ne (by omega), mI_wI_ne (by omega), mI_wI_row (by omega)]
theorem STP.put {M : Mem} (h : REL M) {t w : Nat} {v : Int32} (ht : t < 6) (hw : w ≤ 2) (hv : VO (nI t) (nI w) v) : STP M (PUTM (PUTC M t w v) t w v) := by
  obtain ⟨hC, hM, hK, hV, hO⟩ := h
  have hF := fr_put (M := M) (v := v) ht hw
  have k49 := put_49 (M := M) (t := t) (v := v) hw
  have kc := @put_c M t w v
  obtain ⟨k13, k14, k1⟩ := put_1 (M := M) (t := t) (w := w) (v := v)
  have o1 : mI (PUTM (PUTC M t w v) t w v) 0 12 = 0 := by
    unfold PUTM PUTC
    rw [mI_wI_row (by decide), mI_wI_row (by decide), mI_wI_row (by decide), mI_wIs]
  have o2 : mI (PUTM (PUTC M t w v) t w v) 47 0 = 0 := by
    unfold PUTM
    rw [mI_wI_ne (by decide), mI_wIs]
  have o45 : ∀ k, mI (PUTM (PUTC M t w v) t w v) 45 k = mI M 45 k := fun k => by
    unfold PUTM PUTC TR
    rw [mI_wI_row (by decide), mI_wI_row (by decide), mI_wI_row (by decide), mI_wI_row (by decide), mI_wI_row (by decide), mI_wI_row (by decide), mI_wI_row (by omega)]
  have o48 : ∀ k, mI (PUTM (PUTC M t w v) t w v) 48 k = mI M 48 k := fun k => by
    unfold PUTM PUTC TR
    rw [mI_wI_row (by decide), mI_wI_row (by decide), mI_wI_row (by decide), mI_wI_row (by decide), mI_wI_row (by decide), mI_wI_row (by decide), mI_wI_row (by omega)]
  have vv : mI (PUTM (PUTC M t w v) t w v) 47 1 = mI M 47 1 + 1 := by
    unfold PUTM
    rw [mI_wIs]
    unfold PUTC TR
    rw [mI_wI_row (by decide), mI_wI_row (by decide), mI_wI_row (by decide), mI_wI_row (by omega)]
  generalize PUTM (PUTC M t w v) t w v = M2 at *
  refine ⟨⟨hC.fr hF, hM.fr hF, hK.things (hK.1.put ht hw hv k49) (fun k hk => by rw [k49, if_neg (by omega)]), ⟨fun u hu => ?_, ?_, fun n g h1 h2 h3 => ?_⟩, ?_, fun n hn => ?_⟩, hF, Or.inr (Or.inl ⟨k13, k14⟩), Or.inr vv⟩
  · obtain ⟨a1, a2, a3⟩ := hV.1 u hu
    rw [kc (r := 2) (by omega) (by omega), kc (r := 3) (by omega) (by omega), kc (r := 4) (by omega) (by omega), k49, k49, k49, a1, a2, a3]
    refine ⟨?_, ?_, ?_⟩
    · by_cases q : u = 6 * w + t
      · rw [if_pos q, if_pos (by omega)]
      · rw [if_neg q, if_neg (by omega)]
    · by_cases q : 6 + u = 6 * w + t
      · rw [if_pos q, if_pos (by omega)]
      · rw [if_neg q, if_neg (by omega)]
    · by_cases q : 12 + u = 6 * w + t
      · rw [if_pos q, if_pos (by omega)]
      · rw [if_neg q, if_neg (by omega)]
  · unfold CVo
    rw [k1 8 (by omega), k1 9 (by omega), k1 10 (by omega), k1 11 (by omega), k1 12 (by omega), k49, k49, k49, k49, k49, if_neg (by omega), if_neg (by omega), if_neg (by omega), if_neg (by omega), if_neg (by omega)]
    exact hV.2.1
  · rw [k49, if_neg (by omega)] at h2
    rw [kc (r := 5) (by omega) (by omega), kc (r := 6) (by omega) (by omega), kc (r := 7) (by omega) (by omega), kc (r := 8) (by omega) (by omega), k49, k49, k49, if_neg (by omega), if_neg (by omega), if_neg (by omega), if_neg (by omega), if_neg (by omega), if_neg (by omega), if_neg (by omega)]
    exact hV.2.2 n g h1 h2 h3
  · rw [o1, o2]
  · rw [o45, o48]
    exact hO.2 n hn
theorem both_put {M : Mem} (h : REL M) (a b c : Int32) : BOTH M (fun M => f_X11_put M 0 a b c) (fun M => f_X12_put M 47 a b c) := by
  by_cases ha : 0 ≤ a ∧ a ≤ 5
  · obtain ⟨t, ht, rfl⟩ := th_nat ha
    obtain ⟨v, h1, h2, h3⟩ := both_value (p0 := nI t) (p1 := b) (p2 := c) ha.1
    rcases h3 with h3 | ⟨h3, hv⟩
    · subst h3
      exact ⟨_, _, _, c_put_no h.1 (Or.inr h1), r_put_no (LayM.rfc h.2.1) (Or.inr h2), STP.refuse h (Or.inl rfl)⟩
    · subst h3
      have hb : ∃ w, w ≤ 2 ∧ b = nI w := by
        rcases hv with ⟨q, _⟩ | ⟨q, _⟩ | ⟨q, _⟩
        · exact ⟨0, by omega, q⟩
        · exact ⟨1, by omega, q⟩
        · exact ⟨2, by omega, q⟩
      obtain ⟨w, hw, rfl⟩ := hb
      refine ⟨_, _, _, c_put h.1 ht hw h1, ?_, STP.put h ht hw hv⟩
      have hr := r_put (M := PUTC M t w c) (LayM.putc h.2.1) ht hw h2
      have e : mI (PUTC M t w c) 49 (6 * w + t) = mI M (2 + w) t := by
        unfold PUTC TR
        rw [mI_wI_row (by decide), mI_wI_row (by decide), mI_wI_row (by decide), mI_wI_row (by omega)]
        obtain ⟨a1, a2, a3⟩ := h.2.2.2.1.1 t ht
        have : w = 0 ∨ w = 1 ∨ w = 2 := by omega
        rcases this with e | e | e <;> subst e
        · rw [a1]; congr 1; omega
        · rw [a2]
        · rw [a3]
      rw [e] at hr
      exact hr
  · exact ⟨_, _, _, c_put_no h.1 (Or.inl ha), r_put_no (LayM.rfc h.2.1) (Or.inl ha), STP.refuse h (Or.inl rfl)⟩
theorem both_of {M : Mem} (h : REL M) (a b : Int32) : ∃ x, f_X11_of M 0 a b = some x ∧ f_X12_of M 47 a b = some x := by
  have hLL := h.1
  have hLM := h.2.1
  unfold LayC at hLL
  unfold LayM at hLM
  unfold f_X11_of f_X12_of
  rw [c_isThing, r_isThing, lies_bind]
  simp only [Option.bind_some]
  by_cases ha : 0 ≤ a ∧ a ≤ 5
  · have ne1 : ¬ (1 : Int32) = 0 := by decide
    rw [if_pos ha, if_neg ne1, if_neg ne1]
    by_cases hb : 0 ≤ b ∧ b ≤ 2
    · rw [if_pos hb, if_pos hb.2, if_neg (by have := hb.1; simp only [Int32.lt_iff_toInt_lt, Int32.le_iff_toInt_le, tI0] at this ⊢; omega)]
      obtain ⟨t, ht, rfl⟩ := th_nat ha
      obtain ⟨w, rfl, hw⟩ := nat_of hb.1
      have hb2 := hb.2
      rw [show (2 : Int32) = nI 2 from rfl, nleI hw (by omega)] at hb2
      have ei : (0 + (6 * nI w)) + nI t = nI (6 * w + t) := by
        rw [show (0 : Int32) = nI 0 from rfl, show (6 : Int32) = nI 6 from rfl, nmul, nadd, nadd, Nat.zero_add]
      have hr := h.1.row hb2
      simp only [hLL, hLM, grd_T, Option.bind_some, c_thingRow h.1 hb2, hr, ei]
      rw [grd_y ((nvp (by omega)).mpr ht), grd_y ((nvp (by omega)).mpr (by omega)), nclampI (by omega), nclampI (by omega)]
      refine ⟨_, rfl, ?_⟩
      obtain ⟨a1, a2, a3⟩ := h.2.2.2.1.1 t ht
      have : w = 0 ∨ w = 1 ∨ w = 2 := by omega
      rcases this with e | e | e <;> subst e
      · rw [a1]; congr 2; omega
      · rw [a2]
      · rw [a3]
    · rw [if_neg hb]
      refine ⟨-1, ?_, rfl⟩
      split
      · rfl
      · rw [if_neg (by rename_i q; simp only [Int32.lt_iff_toInt_lt, Int32.le_iff_toInt_le, tI0, tI2] at hb q ⊢; omega)]
  · rw [if_neg ha, if_pos rfl, if_pos rfl]
    exact ⟨_, rfl, rfl⟩
