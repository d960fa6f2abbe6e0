/-! what stands then -/
theorem Fr_cpI {S : Nat → Nat → Prop} {M M1 : Mem} {a b : Nat} {sp dp n : Int32} (h : Fr S M M1) (hs : ∀ k, S b k) : Fr S M (cpI M1 a sp b dp n) := by
  obtain ⟨h1, h2, h3, h4, h5, h6⟩ := h
  refine ⟨h1, h2, h3, h4, h5, fun x k hx => ⟨?_, (h6 x k hx).2⟩⟩
  show va_up (mI M1) b _ x k = _
  rw [vu, if_neg (fun q => hx (by rw [q]; exact hs k))]
  exact (h6 x k hx).1
theorem Fw_cpR {S R : Nat → Nat → Prop} {M M1 : Mem} {a b : Nat} {sp dp n : Int32} (h : Fw S R M M1) (hr : ∀ k, R b k) : Fw S R M (cpR M1 a sp b dp n) := by
  obtain ⟨h1, h2, h3, h4, h5⟩ := h
  refine ⟨h1, h2, h3, fun x k hx hn => ?_, h5⟩
  show va_up (mR M1) b _ x k = _
  rw [vu, if_neg (fun q => hn (by rw [q]; exact hr k))]
  exact h4 x k hx hn
def Stk2 (v a _k : Nat) : Prop := v ≤ a ∧ a ≤ v + 7
def Rtk2 (v a _k : Nat) : Prop := a = v + 8
theorem TK7_fr {M : Mem} {v w : Nat} : Fr (Stk2 v) M (TK7 M v w) := by
  unfold TK7
  exact Fr_cpI (Fr_cpI (Fr_cpI (Fr_cpI (Fr_cpI (Fr_cpI (Fr_cpI Fr.rf (fun k => by unfold Stk2; omega)) (fun k => by unfold Stk2; omega)) (fun k => by unfold Stk2; omega)) (fun k => by unfold Stk2; omega)) (fun k => by unfold Stk2; omega)) (fun k => by unfold Stk2; omega)) (fun k => by unfold Stk2; omega)
theorem TKM_fw {M : Mem} {v w : Nat} : Fw (Stk2 v) (Rtk2 v) M (TKM M v w) := by
  have h0 : Fw (Stk2 v) (Rtk2 v) M (TK7 M v w) := TK7_fr.fw
  unfold TKM
  exact (((((Fw_cpR h0 (fun k => rfl)).wI (show Stk2 v v 8 by unfold Stk2; omega)).wI (show Stk2 v v 9 by unfold Stk2; omega)).wI (show Stk2 v v 10 by unfold Stk2; omega)).wI (show Stk2 v v 11 by unfold Stk2; omega)).wI (show Stk2 v v 12 by unfold Stk2; omega)
theorem TKZ_fw {M : Mem} {v w : Nat} : Fw (Stk2 v) (Rtk2 v) M (TKZ M v w) := by
  have h0 := TKM_fw (M := M) (v := v) (w := w)
  unfold TKZ
  exact (h0.wI (show Stk2 v v 13 by unfold Stk2; omega)).wI (show Stk2 v v 14 by unfold Stk2; omega)
theorem mn_wIq {M : Mem} {a k : Nat} {v : Int32} : mn (wI M a k v) = mn M ∧ mz (wI M a k v) = mz M := ⟨rfl, rfl⟩
theorem mn_cpRq {M : Mem} {a b : Nat} {sp dp n : Int32} : mn (cpR M a sp b dp n) = mn M ∧ mz (cpR M a sp b dp n) = mz M := ⟨rfl, rfl⟩
theorem TKZ_n {M : Mem} {v w : Nat} : mn (TKZ M v w) = mn M ∧ mz (TKZ M v w) = mz M := by
  unfold TKZ TKM
  refine ⟨?_, ?_⟩
  · rw [mn_wIq.1, mn_wIq.1, mn_wIq.1, mn_wIq.1, mn_wIq.1, mn_wIq.1, mn_wIq.1, mn_cpRq.1, TK7_x.2.2.2.1]
  · rw [mn_wIq.2, mn_wIq.2, mn_wIq.2, mn_wIq.2, mn_wIq.2, mn_wIq.2, mn_wIq.2, mn_cpRq.2, TK7_x.2.2.2.2.1]
theorem mR_wIq {M : Mem} {a k : Nat} {v : Int32} : mR (wI M a k v) = mR M := by
  have h : mR (wI M a k v) = mR M := rfl
  exact id h
theorem TKZ_r {M : Mem} {v w : Nat} {g : Nat} (hg : g < 6) : mR (TKZ M v w) (v + 8) g = mR M (w + 8) g := by
  unfold TKZ TKM
  rw [mR_wIq, mR_wIq, mR_wIq, mR_wIq, mR_wIq, mR_wIq, mR_wIq, show (6 : Int32) = nI 6 from rfl, cpR_v (by omega), if_pos ⟨rfl, hg⟩, TK7_x.1]
theorem TKZ_i {M : Mem} {v w : Nat} (hd : v + 8 < w ∨ w + 8 < v) : (∀ j k, 1 ≤ j → j ≤ 3 → k < 6 → mI (TKZ M v w) (v + j) k = mI M (w + j) k) ∧ (∀ j k, 4 ≤ j → j ≤ 7 → k < 12 → mI (TKZ M v w) (v + j) k = mI M (w + j) k) ∧ (∀ k, 8 ≤ k → k ≤ 12 → mI (TKZ M v w) v k = mI M w k) ∧ mI (TKZ M v w) v 13 = mI M v 13 + 1 ∧ mI (TKZ M v w) v 14 = mI M v 14 + 1 := by
  obtain ⟨t1, t2, t3⟩ := TK7_v (M := M) hd
  have er : ∀ x k, x ≠ v → mI (TKZ M v w) x k = mI (TK7 M v w) x k := fun x k hx => by
    unfold TKZ TKM
    rw [mI_wI_row hx, mI_wI_row hx, mI_wI_row hx, mI_wI_row hx, mI_wI_row hx, mI_wI_row hx, mI_wI_row hx, mI_cpR]
  refine ⟨fun j k h1 h2 h3 => by rw [er _ k (by omega)]; exact t1 j k h1 h2 h3, fun j k h1 h2 h3 => by rw [er _ k (by omega)]; exact t2 j k h1 h2 h3, fun k h1 h2 => ?_, ?_, ?_⟩
  · unfold TKZ TKM
    rw [mI_wI_ne (by omega), mI_wI_ne (by omega)]
    have c : k = 8 ∨ k = 9 ∨ k = 10 ∨ k = 11 ∨ k = 12 := by omega
    rcases c with rfl | rfl | rfl | rfl | rfl
    · rw [mI_wI_ne (by decide), mI_wI_ne (by decide), mI_wI_ne (by decide), mI_wI_ne (by decide), mI_wIs]
    · rw [mI_wI_ne (by decide), mI_wI_ne (by decide), mI_wI_ne (by decide), mI_wIs]
    · rw [mI_wI_ne (by decide), mI_wI_ne (by decide), mI_wIs]
    · rw [mI_wI_ne (by decide), mI_wIs]
    · rw [mI_wIs]
  · unfold TKZ
    rw [mI_wI_ne (by decide), mI_wIs]
  · unfold TKZ
    rw [mI_wIs]
/-- what tells one Valley from another, and from Texts -/
theorem VBL.kd {M : Mem} {v : Nat} (h : VBL M v) : mK M v = 10 ∧ (∀ j, 1 ≤ j → j ≤ 7 → mK M (v + j) = 14) ∧ mK M (v + 8) = 19 := by
  obtain ⟨a1, a2, a3, a4, a5, a6⟩ := h
  refine ⟨a1.2, fun j h1 h2 => ?_, a5.2⟩
  by_cases w : j ≤ 3
  · have := (a3 (j - 1) (by omega)).1.2
    rw [show v + 1 + (j - 1) = v + j by omega] at this
    exact this
  · have := (a4 (j - 4) (by omega)).1.2
    rw [show v + 4 + (j - 4) = v + j by omega] at this
    exact this
theorem VBL.ne {M : Mem} {v w : Nat} (hv : VBL M v) (hw : VBL M w) (h : v ≠ w) : v + 8 < w ∨ w + 8 < v := by
  obtain ⟨k1, k2, k3⟩ := hv.kd
  obtain ⟨l1, l2, l3⟩ := hw.kd
  refine Classical.byContradiction (fun q => ?_)
  by_cases w1 : v < w
  · obtain ⟨d, rfl⟩ : ∃ d, w = v + d := ⟨w - v, by omega⟩
    by_cases w2 : d ≤ 7
    · rw [k2 d (by omega) w2] at l1
      omega
    · obtain rfl : d = 8 := by omega
      rw [k3] at l1
      omega
  · obtain ⟨d, rfl⟩ : ∃ d, v = w + d := ⟨v - w, by omega⟩
    by_cases w2 : d ≤ 7
    · rw [l2 d (by omega) w2] at k1
      omega
    · obtain rfl : d = 8 := by omega
      rw [l3] at k1
      omega
theorem VBL.tx {M : Mem} {v tx : Nat} {sms : List SM} (hv : VBL M v) (ht : TXR M tx sms) : ∀ i, i ≤ 2 → ¬ (v ≤ tx + i ∧ tx + i ≤ v + 8) := by
  obtain ⟨k1, k2, k3⟩ := hv.kd
  have e0 : mK M tx = 9 := ht.ok.2
  obtain ⟨cls, C, L, h78, ⟨a1, a2, a3, a4, a5, a6, a7, a8, a9, _⟩, _⟩ := ht
  have e1 : mK M (tx + 1) = 14 := a6.2
  have e2 : mK M (tx + 2) = 14 := a9.2
  have no : ∀ d, d ≤ 8 → tx ≠ v + d := fun d hd q => by
    rw [q] at e0
    by_cases w0 : d = 0
    · subst w0
      rw [Nat.add_zero, k1] at e0
      omega
    · by_cases w1 : d ≤ 7
      · rw [k2 d (by omega) w1] at e0
        omega
      · obtain rfl : d = 8 := by omega
        rw [k3] at e0
        omega
  have n1 : tx + 1 ≠ v := fun q => by rw [q, k1] at e1; omega
  have n2 : tx + 2 ≠ v := fun q => by rw [q, k1] at e2; omega
  intro i hi q
  by_cases w : v ≤ tx
  · exact no (tx - v) (by omega) (by omega)
  · have c : i = 1 ∨ i = 2 := by omega
    rcases c with rfl | rfl <;> omega
