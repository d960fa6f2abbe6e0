/-! change() and changes() on both sides -/
theorem dish_cases (p : Int32) : (¬ isDn p ∧ f_X6_rankOf p = some (-1) ∧ f_X12_isDish p = some 0) ∨ ∃ l, DL l ∧ p = nI (num l) ∧ f_X6_rankOf p = some (nI (rank l)) ∧ f_X12_isDish p = some 1 := by
  by_cases h : isDn p
  · obtain ⟨r, hr, e⟩ := h
    refine Or.inr ⟨r.reverse, ⟨by rw [List.length_reverse]; exact hr.1, fun d hd => hr.2 d (List.mem_reverse.mp hd)⟩, ?_, ?_, ?_⟩
    · unfold num
      rw [List.reverse_reverse]
      exact e
    · unfold rank
      rw [List.reverse_reverse, e]
      exact p_rankOf_y hr
    · rw [e]
      exact p_isDish_y hr
  · exact Or.inl ⟨h, p_rankOf_n h, p_isDish_n h⟩
theorem num_of {l : List Nat} (hl : DL l) : f_X6_numberOf (nI (rank l)) = some (nI (num l)) := p_numberOf hl.rev
theorem rank_lt {l : List Nat} (hl : DL l) : rank l < 9331 := hl.rev.rk
theorem num_le {l : List Nat} (hl : DL l) : num l ≤ 66666 := hl.rev.nr
theorem rank_ne {l : List Nat} (hl : DL l) : ¬ nI (rank l) = -1 := neg1_nI (by have := rank_lt hl; omega)
theorem num_ne {l : List Nat} (hl : DL l) : ¬ nI (num l) = -1 := neg1_nI (by have := num_le hl; omega)
/-- a place that no DISH has -/
theorem r_changed_out {M : Mem} (hM : LayM M) {l : List Nat} (hl : DL l) {p2 p3 p4 p5 : Int32} (h : p3 < 0 ∨ 5 < p3) : TT (f_X12_changed M 47 (nI (num l)) p2 p3 p4 p5) (fun q => Fr Spin M q.1 ∧ q.2 = -1) := by
  have hM2 := hM
  unfold LayM at hM2
  have y0 : okO M 12 47 := hM2.1
  have key : TT (f_X12_makes M 47 (nI (num l)) p2 p3 p4) (fun q => Fr Spin M q.1 ∧ q.2 = -1) := by
    unfold f_X12_makes
    rw [grd_y y0, TT_bind]
    refine (p_opens hM hl).mono ?_
    rintro M1 ⟨a1, a2, a3⟩
    have hM1 := hM.fr a1
    unfold LayM at hM1
    have y1 : okO M1 12 47 := hM1.1
    have out : ∀ b : Int32, b ≤ 5 → ¬ (0 ≤ p3 ∧ p3 ≤ b) := fun b hb q => by
      simp only [Int32.lt_iff_toInt_lt, Int32.le_iff_toInt_le] at h hb q
      have : (5 : Int32).toInt = 5 := rfl
      have : (0 : Int32).toInt = 0 := rfl
      omega
    have h5 := hl.1
    have b0 : nI l.length ≤ 5 := by rw [show (5 : Int32) = nI 5 from rfl, nleI (by omega) (by omega)]; omega
    have hlt : (nI l.length).toInt = l.length := nI_tI (by omega)
    have b1' : nI l.length - 1 ≤ 5 := by
      rw [Int32.le_iff_toInt_le, pred_toInt (by omega)]
      show _ ≤ (5 : Int)
      omega
    have b2 : nI l.length - 2 ≤ 5 := by
      rw [nI_ii, show (2 : Int32) = ii 2 from ii_lit 2, ii_sub, show (5 : Int32) = ii 5 from ii_lit 5, ii_le ⟨by omega, by omega⟩ ⟨by omega, by omega⟩]
      omega
    simp only [bv, lies_bind, grd_y y1, a2]
    by_cases w1 : p2 = 1
    · rw [if_pos w1, if_neg (out _ b0), TT_some]
      exact ⟨a1, rfl⟩
    · rw [if_neg w1]
      by_cases w2 : p2 = 2
      · rw [if_pos w2, if_neg (out _ b2), TT_some]
        exact ⟨a1, rfl⟩
      · rw [if_neg w2, if_neg (out _ b1'), TT_some]
        exact ⟨a1, rfl⟩
  unfold f_X12_changed
  rw [grd_y y0, TT_bind]
  refine key.mono ?_
  rintro q ⟨a1, a2⟩
  rw [a2, if_pos rfl, TT_some]
  exact ⟨a1, rfl⟩
theorem SCI.mono {B B' : Nat} {M : Mem} (h : SCI B M) (hB : B ≤ B') : SCI B' M := by
  obtain ⟨tn, r, ru, y0, s1, s2⟩ := h
  exact ⟨tn, r, ru, y0, by omega, s2⟩
theorem SCI.fr {S : Nat → Nat → Prop} {B : Nat} {M M1 : Mem} (h : SCI B M) (h78 : 78 ≤ mn M) (hF : Fr S M M1) (hs : ∀ a k, S a k → 47 ≤ a ∧ a < 78 ∧ a ≠ 49) : SCI B M1 := by
  obtain ⟨tn, r, ru, y0, s1, s2, s3, s4, s5, s6, s7, s8, s9, s10, s11⟩ := h
  have e : ∀ a k, a < 47 ∨ a = 49 → mI M1 a k = mI M a k := fun a k w => hF.i (fun q => by have := hs _ _ q; omega)
  have e49 : mI M1 49 = mI M 49 := funext (fun k => e 49 k (by omega))
  refine ⟨tn, r, ru, y0, s1, (e 21 4 (by omega)).trans s2, s3.e (fun k => e 25 k (by omega)), (e 21 5 (by omega)).trans s4, (e 1 13 (by omega)).trans s5, s6, s7, (e 21 6 (by omega)).trans s8, s9, fun tx q => okO_fr hF (s10 tx (by rw [← hF.2.2.2.2.1]; exact q)), fun w => ?_⟩
  obtain ⟨o, o1, o2⟩ := s11 w
  rw [e49]
  exact ⟨o, o1, o2.fw h78 (hF.fw (R := fun _ _ => False)) (fun a k q => by have := hs _ _ q; exact ⟨by omega, by omega, fun w => by have := w.1; omega⟩) (fun _ _ q => q.elim) (fun t _ => e 2 t (by omega)) (fun t _ => e 3 t (by omega)) (e 1 12 (by omega)) (fun _ _ => rfl) rfl (fun _ _ => rfl)⟩
def Srv (a k : Nat) : Prop := a = 52 ∨ a = 53 ∨ a = 54 ∨ a = 61 ∨ a = 68 ∨ (a = 47 ∧ (k = 7 ∨ k = 8 ∨ k = 11 ∨ (26 ≤ k ∧ k ≤ 29)))
theorem CALL.look {c : Nat} {M M1 M2 : Mem} {x : Int32} {f g : Mem → Option (Mem × Int32)} (h : INV0 c M) (hf : f M = some (M1, x)) (hg : g M1 = some (M2, x)) (h1 : Fw Slk Rop M M1) (hn : mn M1 = mn M) (hz : mz M1 = mz M) (hS : SCI (300 * (c + 1)) M1) (h2 : Fr Srv M1 M2) : CALL c M f g := by
  have h78 := h.2.1.1
  refine ⟨M1, M2, x, hf, hg, h.look (h1.tr ((h2.fw (R := Rop)).up (fun a k w => by unfold Srv at w; unfold Slk; omega) (fun _ _ w => w))) (by rw [h2.1]; exact hn) (by rw [h2.2.1]; exact hz) (hS.fr (by omega) h2 (fun a k w => by unfold Srv at w; omega))⟩
theorem CALL.same {c : Nat} {M : Mem} {x : Int32} {f g : Mem → Option (Mem × Int32)} (h : INV0 c M) (hf : f M = some (M, x)) (hg : g M = some (M, x)) : CALL c M f g := CALL.look h hf hg Fw.rf rfl rfl (h.mid.2.mono (by omega)) Fr.rf
theorem Sls_rv : ∀ a k, Sls a k → Srv a k := fun a k h => by
  rw [Sls_iff] at h
  unfold Srv
  omega
/-- whether a SORT, a place and a THING tell a change -/
def ICH (p2 p3 p4 : Int32) : Prop := (0 ≤ p2 ∧ p2 ≤ 4) ∧ (0 ≤ p3 ∧ p3 ≤ 5) ∧ (p2 = 1 → 0 ≤ p4 ∧ p4 ≤ 5)
theorem c_isChange (p2 p3 p4 : Int32) : f_X11_isChange p2 p3 p4 = some (if (0 ≤ p2 ∧ p2 ≤ 4) ∧ (0 ≤ p3 ∧ p3 ≤ 5) ∧ (p2 = 1 → 0 ≤ p4 ∧ p4 ≤ 5) then 1 else 0) := by
  unfold f_X11_isChange
  have t0 : (0 : Int32).toInt = 0 := rfl
  have t4 : (4 : Int32).toInt = 4 := rfl
  have t5 : (5 : Int32).toInt = 5 := rfl
  by_cases a1 : p2 < 0
  · rw [if_pos a1, if_neg (fun q => by simp only [Int32.lt_iff_toInt_lt, Int32.le_iff_toInt_le] at a1 q; omega)]
  · rw [if_neg a1]
    by_cases a2 : 4 < p2
    · rw [if_pos a2, if_neg (fun q => by simp only [Int32.lt_iff_toInt_lt, Int32.le_iff_toInt_le] at a2 q; omega)]
    · rw [if_neg a2]
      by_cases a3 : p3 < 0
      · rw [if_pos a3, if_neg (fun q => by simp only [Int32.lt_iff_toInt_lt, Int32.le_iff_toInt_le] at a3 q; omega)]
      · rw [if_neg a3]
        by_cases a4 : 5 < p3
        · rw [if_pos a4, if_neg (fun q => by simp only [Int32.lt_iff_toInt_lt, Int32.le_iff_toInt_le] at a4 q; omega)]
        · rw [if_neg a4]
          have hb : (0 ≤ p2 ∧ p2 ≤ 4) ∧ (0 ≤ p3 ∧ p3 ≤ 5) := by
            simp only [Int32.lt_iff_toInt_lt, Int32.le_iff_toInt_le] at a1 a2 a3 a4 ⊢
            omega
          by_cases a5 : p2 = 1
          · rw [if_pos a5, c_isThing, Option.bind_some]
            by_cases a6 : 0 ≤ p4 ∧ p4 ≤ 5
            · rw [if_pos a6, if_neg (by decide), if_pos ⟨hb.1, hb.2, fun _ => a6⟩]
            · rw [if_neg a6, if_pos rfl, if_neg (fun q => a6 (q.2.2 a5))]
          · rw [if_neg a5, if_pos ⟨hb.1, hb.2, fun q => absurd q a5⟩]
