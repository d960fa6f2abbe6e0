/-! the reference asks a LAW -/
noncomputable def tlJ (p1 q35 : Int32) (tld : Int64) (s47 : Mem × Int64) : Option ((Mem × Int64) ⊕ (Mem × Int64)) := bv (mI s47.1 47 28 : Int32) (fun x51 => bv (wI s47.1 47 28 0) (fun M52 => Option.bind (f_X12_passes0 M52 47 3) (fun q56 => bv (fun (s62 : Mem × Int32) => bv (fun (s67 : Int64) => bv (wI s62.1 47 26 ((mI s62.1 47 26) + 1)) (fun M70 => some (.inl (M70, s67)))) (fun j66 => if q35 = p1 then (if s62.2 = 0 then (j66 tld) else (if (mI s62.1 47 28) = 0 then (if x51 = 0 then (bv (fun (s75 : Int64) => j66 s75) (fun j74 => if 0 ≤ (lg_cmp s47.2 0) then (if (lg_cmp s47.2 99) ≤ 0 then (j74 s47.2) else (j74 99)) else (j74 0))) else (j66 tld)) else (j66 tld))) else (j66 tld))) (fun j61 => bv (fun (s79 : Mem) => j61 (s79, 1)) (fun j78 => if q56.2 = 0 then (j78 q56.1) else (Option.bind (f_X12_testOf 100 q56.1 47 1) (fun q83 => if q83.2 = 0 then (j61 (q83.1, 0)) else (j78 q83.1))))))))
noncomputable def tlB (p1 : Int32) : Mem × Int64 → Option ((Mem × Int64) ⊕ (Mem × Int64)) := (fun s26 => if (mI s26.1 47 27) ≤ (mI s26.1 47 26) then (some (.inr (s26.1, s26.2))) else (Option.bind (f_X12_codeAt s26.1 47 (mI s26.1 47 26)) (fun q35 => bv (wI s26.1 47 28 0) (fun M38 => bv (wI M38 47 26 ((mI M38 47 26) + 1)) (fun M42 => bv (fun (s47 : Mem × Int64) => bv (mI s47.1 47 28 : Int32) (fun x51 => bv (wI s47.1 47 28 0) (fun M52 => Option.bind (f_X12_passes0 M52 47 3) (fun q56 => bv (fun (s62 : Mem × Int32) => bv (fun (s67 : Int64) => bv (wI s62.1 47 26 ((mI s62.1 47 26) + 1)) (fun M70 => some (.inl (M70, s67)))) (fun j66 => if q35 = p1 then (if s62.2 = 0 then (j66 s26.2) else (if (mI s62.1 47 28) = 0 then (if x51 = 0 then (bv (fun (s75 : Int64) => j66 s75) (fun j74 => if 0 ≤ (lg_cmp s47.2 0) then (if (lg_cmp s47.2 99) ≤ 0 then (j74 s47.2) else (j74 99)) else (j74 0))) else (j66 s26.2)) else (j66 s26.2))) else (j66 s26.2))) (fun j61 => bv (fun (s79 : Mem) => j61 (s79, 1)) (fun j78 => if q56.2 = 0 then (j78 q56.1) else (Option.bind (f_X12_testOf 100 q56.1 47 1) (fun q83 => if q83.2 = 0 then (j61 (q83.1, 0)) else (j78 q83.1))))))))) (fun j46 => if q35 = 2 then (j46 (M42, 1)) else (Option.bind (f_X12_sumOf 100 M42 47 1) (fun q88 => j46 (q88.1, q88.2)))))))))
theorem tlB_eq {p1 : Int32} {s26 : Mem × Int64} : tlB p1 s26 = if (mI s26.1 47 27) ≤ (mI s26.1 47 26) then (some (.inr (s26.1, s26.2))) else (Option.bind (f_X12_codeAt s26.1 47 (mI s26.1 47 26)) (fun q35 => bv (wI s26.1 47 28 0) (fun M38 => bv (wI M38 47 26 ((mI M38 47 26) + 1)) (fun M42 => bv (fun (s47 : Mem × Int64) => tlJ p1 q35 s26.2 s47) (fun j46 => if q35 = 2 then (j46 (M42, 1)) else (Option.bind (f_X12_sumOf 100 M42 47 1) (fun q88 => j46 (q88.1, q88.2)))))))) := rfl
/-- what a CLAUSE does to what is told -/
def tstp (hd : Nat) (W : Nat → Int32) (told : Int) (s : SM) : Int := if s.2.1 W = some true then (if s.1 then (if hd = 2 then 1 else told) else (if hd = 1 then (match s.2.2 W with
  | some v => (clmp v : Int)
  | none => told) else told)) else told
section
variable {T : Nat → Nat} {len : Nat}
theorem clmp_jj {v : Int} (hv : S32 v) : (if 0 ≤ lg_cmp (jj v) 0 then (if lg_cmp (jj v) 99 ≤ 0 then jj v else 99) else 0) = jj (clmp v : Int) := by
  have R99 : R64 99 := ⟨by decide, by decide⟩
  rw [show (0 : Int64) = jj 0 from rfl, show (99 : Int64) = jj 99 from rfl]
  unfold clmp
  by_cases h : 0 ≤ v
  · rw [if_pos ((lgc2 hv.r R64_0).mpr h)]
    by_cases h2 : v ≤ 99
    · rw [if_pos ((lgc3 hv.r R99).mpr h2)]
      congr 1
      omega
    · rw [if_neg (fun w => h2 ((lgc3 hv.r R99).mp w))]
      congr 1
      omega
  · rw [if_neg (fun w => h ((lgc2 hv.r R64_0).mp w))]
    congr 1
    omega
/-- the end of a CLAUSE: its "if", and what is told then -/
theorem tl_J (hT : ∀ j, len ≤ j → T j = 256) {M : Mem} {B k1 k2 hd is : Nat} {W : Nat → Int32} {told : Int} {s : SM} {sv : Option Int} {v : Int64} (hE : RE M T len false B W) (hk1 : k1 ≤ len) (hk2 : k2 ≤ len) (hgo : mI M 47 26 = nI (B + k1)) (hsum : match sv with
    | some x => v = jj x ∧ mI M 47 28 = 0 ∧ S32 x
    | none => mI M 47 28 = 1) (hco : RCO T len false k1 k2 s.2.1) (his : is = 1 ∨ is = 2) (hhd : hd = 1 ∨ hd = 2) (hs : (s.1 = false ∧ is = 1 ∧ sv = s.2.2 W) ∨ (s.1 = true ∧ is = 2 ∧ sv = some 1)) : TT (tlJ (nI hd) (nI is) (jj told) (M, v)) (fun r => ∃ M2, r = .inl (M2, jj (tstp hd W told s)) ∧ Fr Sgo M M2 ∧ mI M2 47 26 = nI (B + k2 + 1)) := by
  have hF0 : Fr Sgo M (wI M 47 28 0) := Fr.rf.wI Sgo28
  have g26 : mI (wI M 47 28 0) 47 26 = nI (B + k1) := by rw [mI_wI_ne (by decide)]; exact hgo
  have hE0 := hE.fr hF0
  have hp := r_passes hT hE0 (c := 3) hk1 g26 (by omega)
  have c3 : rc (T k1) = 3 ↔ T k1 = 262 := rc_tok (by omega) (by decide)
  have ehd : (nI is = nI hd) ↔ is = hd := neqI (by omega) (by omega)
  have n10 : ¬ (1 : Int32) = 0 := by decide
  have n01 : ¬ (0 : Int32) = 1 := by decide
  -- what is told, once the test is known
  have fin : ∀ (M3 : Mem) (b : Bool) (tvb : Option Bool), s.2.1 W = tvb → Fr Sgo M M3 → mI M3 47 26 = nI (B + k2) → (match tvb with
      | some x => b = x ∧ mI M3 47 28 = 0
      | none => mI M3 47 28 = 1) → TT (if nI is = nI hd then (if b1 b = 0 then (some (.inl (wI M3 47 26 (mI M3 47 26 + 1), jj told)) : Option ((Mem × Int64) ⊕ (Mem × Int64))) else (if mI M3 47 28 = 0 then (if mI M 47 28 = 0 then (if 0 ≤ lg_cmp v 0 then (if lg_cmp v 99 ≤ 0 then some (.inl (wI M3 47 26 (mI M3 47 26 + 1), v)) else some (.inl (wI M3 47 26 (mI M3 47 26 + 1), 99))) else some (.inl (wI M3 47 26 (mI M3 47 26 + 1), 0))) else some (.inl (wI M3 47 26 (mI M3 47 26 + 1), jj told))) else some (.inl (wI M3 47 26 (mI M3 47 26 + 1), jj told)))) else some (.inl (wI M3 47 26 (mI M3 47 26 + 1), jj told))) (fun r => ∃ M2, r = .inl (M2, jj (tstp hd W told s)) ∧ Fr Sgo M M2 ∧ mI M2 47 26 = nI (B + k2 + 1)) := by
    intro M3 b tvb htv hF3 hg3 hb3
    have hF4 : Fr Sgo M (wI M3 47 26 (mI M3 47 26 + 1)) := hF3.wI Sgo26
    have hg4 : mI (wI M3 47 26 (mI M3 47 26 + 1)) 47 26 = nI (B + k2 + 1) := by rw [mI_wIs, hg3, nsucc]
    generalize wI M3 47 26 (mI M3 47 26 + 1) = M4 at hF4 hg4 ⊢
    have done : ∀ z : Int, z = tstp hd W told s → TT (some (.inl (M4, jj z)) : Option ((Mem × Int64) ⊕ (Mem × Int64))) (fun r => ∃ M2, r = .inl (M2, jj (tstp hd W told s)) ∧ Fr Sgo M M2 ∧ mI M2 47 26 = nI (B + k2 + 1)) := by
      rintro z rfl
      rw [TT_some]
      exact ⟨M4, rfl, hF4, hg4⟩
    by_cases w1 : is = hd
    · rw [if_pos (ehd.mpr w1)]
      cases tvb with
      | none =>
        have e : tstp hd W told s = told := by unfold tstp; rw [htv, if_neg (fun w => by cases w)]
        rw [if_neg (show ¬ mI M3 47 28 = 0 from by rw [hb3]; exact n10), ite_self]
        exact done told e.symm
      | some x =>
        obtain ⟨rfl, h28⟩ := hb3
        cases b with
        | false =>
          have e : tstp hd W told s = told := by unfold tstp; rw [htv, if_neg (fun w => by cases w)]
          rw [if_pos (show b1 false = 0 from rfl)]
          exact done told e.symm
        | true =>
          rw [if_neg (show ¬ b1 true = 0 by decide), if_pos h28]
          cases sv with
          | none =>
            have e : tstp hd W told s = told := by
              unfold tstp
              rw [htv, if_pos rfl]
              rcases hs with ⟨h1, h2, h3⟩ | ⟨h1, h2, h3⟩
              · rw [h1, if_neg (by decide), if_pos (by omega), ← h3]
              · cases h3
            rw [if_neg (show ¬ mI M 47 28 = 0 from by rw [hsum]; exact n10)]
            exact done told e.symm
          | some y =>
            obtain ⟨rfl, h0, hy⟩ := hsum
            rw [if_pos h0]
            have e : (clmp y : Int) = tstp hd W told s := by
              unfold tstp
              rw [htv, if_pos rfl]
              rcases hs with ⟨h1, h2, h3⟩ | ⟨h1, h2, h3⟩
              · rw [h1, if_neg (by decide), if_pos (by omega), ← h3]
              · cases h3
                rw [h1, if_pos rfl, if_pos (by omega)]
                rfl
            have key := done (clmp y : Int) e
            rw [← clmp_jj hy] at key
            by_cases a1 : 0 ≤ lg_cmp (jj y) 0
            · rw [if_pos a1] at key ⊢
              by_cases a2 : lg_cmp (jj y) 99 ≤ 0
              · rw [if_pos a2] at key ⊢
                exact key
              · rw [if_neg a2] at key ⊢
                exact key
            · rw [if_neg a1] at key ⊢
              exact key
    · rw [if_neg (fun w => w1 (ehd.mp w))]
      have e : tstp hd W told s = told := by
        unfold tstp
        split
        · rcases hs with ⟨h1, h2, h3⟩ | ⟨h1, h2, h3⟩
          · rw [h1, if_neg (by decide), if_neg (by omega)]
          · rw [h1, if_pos rfl, if_neg (by omega)]
        · rfl
      exact done told e.symm
  unfold tlJ
  simp only [bv]
  rw [show (3 : Int32) = nI 3 from rfl, hp, Option.bind_some]
  rcases hco with ⟨o1, o2, o3⟩ | ⟨o1, o2⟩
  · subst o2
    rw [if_neg (fun w => o1 (c3.mp w))]
    simp only [if_true]
    exact fin (wI M 47 28 0) true (some true) (o3 W) hF0 g26 ⟨rfl, mI_wIs⟩
  · rw [if_pos (c3.mpr o1)]
    simp only [n10, if_false]
    have hF1 : Fr Sgo M (wI (wI M 47 28 0) 47 26 (nI (B + (k1 + 1)))) := hF0.wI Sgo26
    have h28 : mI (wI (wI M 47 28 0) 47 26 (nI (B + (k1 + 1)))) 47 28 = 0 := by rw [mI_wI_ne (by decide), mI_wIs]
    have ht := o2 _ B W (hE.fr hF1) mI_wIs (Or.inl h28) true
    rw [TT_bind]
    refine (show TT (f_X12_testOf 100 _ 47 1) _ from ht).mono ?_
    rintro ⟨M3, y⟩ ⟨a1, a2, ⟨b, hb⟩, a3⟩
    simp only at a1 a2 hb a3 ⊢
    subst hb
    rw [if_pos ⟨trivial, h28⟩] at a3
    have key := fin M3 b (s.2.1 W) rfl (hF1.tr a1) a2 (by
      cases hx : s.2.1 W with
      | none => rw [hx] at a3; exact a3
      | some x =>
        rw [hx] at a3
        refine ⟨?_, a3.2⟩
        have := a3.1
        cases b <;> cases x <;> first | rfl | exact absurd this (by decide))
    cases b with
    | false =>
      rw [if_pos (show b1 false = 0 from rfl)] at key ⊢
      exact key
    | true =>
      rw [if_neg (show ¬ b1 true = 0 by decide)] at key ⊢
      exact key
end
