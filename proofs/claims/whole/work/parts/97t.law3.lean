/-! law() on both sides, with the invariant -/
theorem tape0 {M : Mem} (h4 : mI M 11 4 = 0) (h17 : mI M 47 17 = 0) : ∃ n bt, TAPE M n bt := ⟨0, fun _ => 0, by omega, h4, h17, fun i hi => by omega⟩
theorem AGK.keep {K K' : Nat → Int32} (hk : KLW K) {c : Nat} (h57 : K 57 = nI c) (hc : c ≤ 6) (h : ∀ k, k ≠ 57 → k ≠ 59 + c → ¬ (66 + 400 * c ≤ k ∧ k < 466 + 400 * c) → ¬ (2866 + 400 * c ≤ k ∧ k < 3266 + 400 * c) → K' k = K k) : AGK K K' := by
  obtain ⟨c', hc', h57', h58⟩ := hk
  have ec : c' = c := (neqI (by omega) (by omega)).mp (h57'.symm.trans h57)
  subst ec
  refine ⟨⟨fun t ht => h t (by omega) (by omega) (by omega) (by omega), h 55 (by omega) (by omega) (by omega) (by omega), h 58 (by omega) (by omega) (by omega) (by omega), fun g hg e => ?_⟩, fun k hk => h k (by omega) (by omega) (by omega) (by omega)⟩
  have hgc : g < c' := by
    rcases h58 with q | ⟨f, q1, q2⟩
    · exact absurd (e.symm.trans q) (neg1_nI (by omega))
    · have := (neqI (by omega) (by omega)).mp (e.symm.trans q2)
      omega
  exact ⟨h _ (by omega) (by omega) (by omega) (by omega), fun j hj => ⟨h _ (by omega) (by omega) (by omega) (by omega), h _ (by omega) (by omega) (by omega) (by omega)⟩⟩
theorem both_law {c : Nat} (hc : c < 600) {M : Mem} (h : INV0 c M) : CALL c M (fun M => f_X11_law M 0) (fun M => f_X12_law M 47) := by
  obtain ⟨⟨hC, hM, ⟨kt, km, kl, kh⟩, ⟨vt, vo, vh⟩, hO⟩, ⟨h78, b2, b3, b4, b5⟩, ⟨n, bt, ht⟩, hW, i5, ⟨p1, p2, p3, p4⟩, i7, i8⟩ := id h
  obtain ⟨lc, hlc, h57, h58⟩ := id kl
  have h9 : mI M 1 9 = nI lc := vo.2.1.trans h57
  by_cases hfull : lc = 6
  · subst hfull
    have hFa : Fr Sno M (RFC (wI M 11 4 0) 5) := fr_rfc (Fr.rf.wI (by unfold Sno; omega)) (by unfold Sno; omega) (fun k => by unfold Sno; omega)
    have e1 : mI (RFC (wI M 11 4 0) 5) 49 57 = nI 6 := by
      rw [hFa.i (by unfold Sno; omega)]
      exact h57
    refine ⟨_, _, _, c_law_full hC h9, r_law_full (hM.fr hFa) e1, ?_⟩
    have hF2 : Fr Sno M (RFM (wI (RFC (wI M 11 4 0) 5) 47 17 0) 5) := fr_rfm (hFa.wI (by unfold Sno; omega)) (by unfold Sno; omega) (fun k => by unfold Sno; omega)
    refine INV0.refused hc h hF2 (hO.rf (Y := wI M 11 4 0) (by unfold RN; omega) (fun k => by rw [mI_wI_row (by decide)]) (fun k => by rw [mI_wI_row (by decide)]) (by rw [mI_wI_row (by decide)]) (fun k => by rw [mI_wI_row (by decide), rfc_v.1 48 k (by decide) (by decide), mI_wI_row (by decide)])) (tape0 ?_ ?_) ?_ ?_
    · rw [rfm_v.1 11 4 (by decide) (by decide), mI_wI_row (by decide), rfc_v.1 11 4 (by decide) (by decide), mI_wIs]
    · rw [rfm_v.2.1 17 (by decide), mI_wIs]
    · rw [rfm_v.1 0 14 (by decide) (by decide), mI_wI_row (by decide), rfc_v.2.1 14 (by decide), mI_wI_row (by decide), rfm_v.2.1 18 (by decide), mI_wI_ne (by decide), rfc_v.1 47 18 (by decide) (by decide), mI_wI_row (by decide)]
      exact p2
    · rw [rfm_v.1 0 15 (by decide) (by decide), mI_wI_row (by decide), rfc_v.2.1 15 (by decide), mI_wI_row (by decide), rfm_v.2.1 46 (by decide), mI_wI_ne (by decide), rfc_v.1 47 46 (by decide) (by decide), mI_wI_row (by decide)]
      exact p3
  · have hlc6 : lc < 6 := by omega
    obtain ⟨⟨M1, x⟩, e1, hq1⟩ := c_lawT hC h78 ht hlc6 h9
    have hrow : ∀ a k, 47 ≤ a ∨ a = 12 → a < 78 → (∃ S R, Fw S R M M1 ∧ ∀ a k, S a k → a < 47 ∧ a ≠ 12) → mI M1 a k = mI M a k := fun a k w1 w2 ⟨S, R, hF, hs⟩ => hF.i (by omega) (fun q => by have := hs _ _ q; omega)
    have hrow2 : LayM M1 → (∃ S R, Fw S R M M1 ∧ ∀ a k, S a k → a < 47 ∧ a ≠ 12) → TT (f_X12_law M1 47) (RWQ bt n lc M1 (tlR (pRd false (tkT bt n) 12 0 0 0))) := fun hM1 w => by
      refine r_lawT hM1 (fun i hi => ?_) ⟨ht.1, trivial, ?_, fun i hi => ?_⟩ hlc6 ?_
      · rw [hrow 55 i (by omega) (by omega) w]
        exact hW i hi
      · rw [hrow 47 17 (by omega) (by omega) w]
        exact ht.2.2.1
      · rw [hrow 12 i (by omega) (by omega) w, hrow 56 i (by omega) (by omega) w]
        exact ht.2.2.2 i hi
      · rw [hrow 49 57 (by omega) (by omega) w]
        exact h57
    cases hr : pRd false (tkT bt n) 12 0 0 0 with
    | inl j =>
      rw [hr] at hq1
      obtain ⟨Ma, a1, a2, a3, a4⟩ := hq1
      cases a4
      have hFa : Fr Snd M (RFC Ma 6) := fr_rfc (a1.up (fun _ _ w => Or.inl w)) (by unfold Snd; omega) (fun k => by unfold Snd; omega)
      obtain ⟨⟨M2, x⟩, e2, hq2⟩ := hrow2 (hM.fr hFa) ⟨Snd, fun _ _ => False, hFa.fw, fun a k w => by unfold Snd Snc at w; omega⟩
      rw [hr] at hq2
      obtain ⟨Mb, b1', b2', b3', b4'⟩ := hq2
      cases b4'
      have eb : ∀ a k, a ≠ 47 → a < 58 → mI Mb a k = mI (RFC Ma 6) a k := fun a k w1 w2 => b1'.i (by unfold Srn Srr Ssp; omega)
      have e47 : ∀ k, k ≠ 14 → k ≠ 17 → k ≠ 18 → ¬ (22 ≤ k ∧ k ≤ 25) → mI Mb 47 k = mI (RFC Ma 6) 47 k := fun k w1 w2 w3 w4 => b1'.i (by unfold Srn Srr Ssp; omega)
      have ea : ∀ a k, a ≠ 0 → a ≠ 11 → True → ¬ (13 ≤ a ∧ a ≤ 17) → mI Ma a k = mI M a k := fun a k w1 w2 w3 w4 => a1.i (by unfold Snc; omega)
      have hF2 : Fr Sno M (RFM Mb 6) := fr_rfm ((hFa.up Snd_no).tr (b1'.up (fun a k w => by unfold Srn Srr Ssp at w; unfold Sno; omega))) (by unfold Sno; omega) (fun k => by unfold Sno; omega)
      refine ⟨_, _, _, e1, e2, INV0.refused hc h hF2 (hO.rf (Y := Ma) (by unfold RN; omega) (fun k => ?_) (fun k => eb 45 k (by decide) (by decide)) (eb 0 12 (by decide) (by decide)) (fun k => ?_)) (tape0 ?_ ?_) ?_ ?_⟩
      · exact ea 45 k (by decide) (by decide) trivial (by omega)
      · rw [eb 48 k (by decide) (by decide), rfc_v.1 48 k (by decide) (by decide), ea 48 k (by decide) (by decide) trivial (by omega)]
      · rw [rfm_v.1 11 4 (by decide) (by decide), eb 11 4 (by decide) (by decide), rfc_v.1 11 4 (by decide) (by decide)]
        exact a2
      · rw [rfm_v.2.1 17 (by decide)]
        exact b2'
      · rw [rfm_v.1 0 14 (by decide) (by decide), eb 0 14 (by decide) (by decide), rfc_v.2.1 14 (by decide), a3, rfm_v.2.1 18 (by decide), b3']
      · rw [rfm_v.1 0 15 (by decide) (by decide), eb 0 15 (by decide) (by decide), rfc_v.2.1 15 (by decide), a1.i (by unfold Snc; omega), rfm_v.2.1 46 (by decide), e47 46 (by decide) (by decide) (by decide) (by decide), rfc_v.1 47 46 (by decide) (by decide), ea 47 46 (by decide) (by decide) trivial (by omega)]
        exact p3
    | inr z =>
      rw [hr] at hq1
      obtain ⟨q1, q2, q3, q4, q5, q6, q7, q8, q9, ⟨ay, q10, q11⟩, q12⟩ := hq1
      simp only at q1 q2 q3 q4 q5 q6 q7 q8 q9 q10 q12
      have hRo : ∀ a k, oldR a k = true → ¬ Rlw a k := fun a k w q => by
        unfold Rlw at q
        subst q
        unfold oldR at w
        simp at w
      have hM1 : LayM M1 := hM.fw h78 q2 hRo
      obtain ⟨⟨M2, x2⟩, e2, hq2⟩ := hrow2 hM1 ⟨Slw, Rlw, q2, fun a k w => by unfold Slw Srd at w; omega⟩
      rw [hr] at hq2
      obtain ⟨r1, r2, r3, r4, r5, r6, r7, r8⟩ := hq2
      simp only at r1 r2 r3 r4 r5 r6 r7 r8
      subst q1 r1
      refine ⟨M1, M2, nI lc, e1, e2, ?_⟩
      -- where cells stand
      have u1 : ∀ a k, a < 78 → ¬ Slw a k → ¬ Srk lc a k → mI M2 a k = mI M a k := fun a k w1 w2 w3 => by
        rw [r2.i w3, q2.i (by omega) w2]
      have uR : ∀ a k, mR M2 a k = mR M1 a k := fun a k => by rw [r2.2.2.2.2.1]
      have hFw : Fw (fun a k => Slw a k ∨ Srk lc a k) Rlw M M2 := (q2.up (fun _ _ w => Or.inl w) (fun _ _ w => w)).tr ((r2.fw).up (fun _ _ w => Or.inr w) (fun _ _ w => w))
      have k49 : ∀ k, k ≠ 57 → k ≠ 59 + lc → ¬ (66 + 400 * lc ≤ k ∧ k < 466 + 400 * lc) → ¬ (2866 + 400 * lc ≤ k ∧ k < 3266 + 400 * lc) → mI M2 49 k = mI M 49 k := fun k w1 w2 w3 w4 => u1 49 k (by decide) (by unfold Slw Srd; omega) (by unfold Srk Srl Srr Ssp Sly; omega)
      have hag : AGK (mI M 49) (mI M2 49) := AGK.keep kl h57 (by omega) k49
      have hyh : YHK (mI M 49) (mI M2 49) := ⟨k49 54 (by omega) (by omega) (by omega) (by omega), k49 56 (by omega) (by omega) (by omega) (by omega), fun n g h1 h2 h3 => ⟨k49 _ (by omega) (by omega) (by omega) (by omega), k49 _ (by omega) (by omega) (by omega) (by omega), k49 _ (by omega) (by omega) (by omega) (by omega)⟩⟩
      have k1 : ∀ k, k ≠ 9 → mI M2 1 k = mI M 1 k := fun k w => u1 1 k (by decide) (by unfold Slw Srd; omega) (by unfold Srk Srl Srr Ssp Sly; omega)
      have v47 : mI M2 47 1 = mI M 47 1 + 1 := by
        rw [r4, q2.i (by omega) (by unfold Slw Srd; omega)]
      have hq : QST M M2 := ⟨0, 0, 1, by omega, by omega, by omega, by rw [k1 13 (by decide)]; exact (Int32.add_zero _).symm, by rw [k1 14 (by decide)]; exact (Int32.add_zero _).symm, v47, fun _ => hag, fun _ => ⟨hag, hyh⟩, fun w => by omega⟩
      have l18 : ∀ k, k < 57 → mI M2 49 k = mI M 49 k := fun k w => k49 k (by omega) (by omega) (by omega) (by omega)
      have l58 : mI M2 49 58 = mI M 49 58 := k49 58 (by omega) (by omega) (by omega) (by omega)
      have u8 : ∀ a k, 2 ≤ a → a ≤ 8 → mI M2 a k = mI M a k := fun a k w1 w2 => u1 a k (by omega) (by unfold Slw Srd; omega) (by unfold Srk Srl Srr Ssp Sly; omega)
      have hC1 : LayC M1 := hC.fw h78 q2 hRo
      have v9 : mI M2 1 9 = nI (lc + 1) := by
        rw [r2.i (by unfold Srk Srl Srr Ssp Sly; omega)]
        exact q8
      have hR2 : REL M2 := by
        refine ⟨hC1.fr r2, hM1.fr r2, ⟨fun t ht => ?_, ?_, ⟨lc + 1, by omega, r7, ?_⟩, ?_⟩, ⟨fun t ht => ?_, ?_, fun n g h1 h2 h3 => ?_⟩, ?_, fun m hm => ?_⟩
        · rw [l18 t (by omega), l18 (6 + t) (by omega), l18 (12 + t) (by omega)]
          exact kt t ht
        · unfold KTM
          rw [l18 54 (by omega), l18 55 (by omega)]
          exact km
        · rw [l58]
          rcases h58 with w | ⟨f, w1, w2⟩
          · exact Or.inl w
          · exact Or.inr ⟨f, by omega, w2⟩
        · obtain ⟨n, n1, n2, n3⟩ := kh
          refine ⟨n, n1, by rw [l18 56 (by omega)]; exact n2, fun g hg => ?_⟩
          rw [l18 _ (by omega), l18 _ (by omega), l18 _ (by omega)]
          exact n3 g hg
        · rw [u8 2 t (by omega) (by omega), u8 3 t (by omega) (by omega), u8 4 t (by omega) (by omega), l18 t (by omega), l18 (6 + t) (by omega), l18 (12 + t) (by omega)]
          exact vt t ht
        · obtain ⟨o1, o2, o3, o4, o5⟩ := vo
          unfold CVo
          rw [k1 8 (by decide), v9, k1 10 (by decide), k1 11 (by decide), k1 12 (by decide), l18 56 (by omega), r7, l58, l18 54 (by omega), l18 55 (by omega)]
          exact ⟨o1, rfl, o3, o4, o5⟩
        · rw [l18 56 (by omega)] at h2
          rw [u8 5 g (by omega) (by omega), u8 6 g (by omega) (by omega), u8 7 g (by omega) (by omega), u8 8 g (by omega) (by omega), l18 _ (by omega), l18 _ (by omega), l18 _ (by omega)]
          exact vh n g h1 h2 h3
        · rw [r3, r2.i (by unfold Srk Srl Srr Ssp Sly; omega)]
          exact q5
        · rw [u1 45 _ (by decide) (by unfold Slw Srd; omega) (by unfold Srk Srl Srr Ssp Sly; omega), u1 48 _ (by decide) (by unfold Slw Srd; omega) (by unfold Srk Srl Srr Ssp Sly; omega)]
          exact hO.2 m hm
      have hP : SMP M2 := by
        obtain ⟨k, p5, p6, p7, p8⟩ := p4
        refine ⟨?_, ?_, ?_, k, p5, ?_, ?_, fun i hi => ?_⟩
        · rw [u1 0 13 (by decide) (by unfold Slw Srd; omega) (by unfold Srk Srl Srr Ssp Sly; omega), u1 47 12 (by decide) (by unfold Slw Srd; omega) (by unfold Srk Srl Srr Ssp Sly; omega)]
          exact p1
        · rw [r6, r2.i (by unfold Srk Srl Srr Ssp Sly; omega)]
          exact q6
        · rw [u1 0 15 (by decide) (by unfold Slw Srd; omega) (by unfold Srk Srl Srr Ssp Sly; omega), u1 47 46 (by decide) (by unfold Slw Srd; omega) (by unfold Srk Srl Srr Ssp Sly; omega)]
          exact p3
        · rw [u1 0 11 (by decide) (by unfold Slw Srd; omega) (by unfold Srk Srl Srr Ssp Sly; omega)]
          exact p6
        · rw [u1 47 57 (by decide) (by unfold Slw Srd; omega) (by unfold Srk Srl Srr Ssp Sly; omega)]
          exact p7
        · rw [u1 46 i (by decide) (by unfold Slw Srd; omega) (by unfold Srk Srl Srr Ssp Sly; omega), u1 77 i (by decide) (by unfold Slw Srd; omega) (by unfold Srk Srl Srr Ssp Sly; omega)]
          exact p8 i hi
      have hT : ∃ n bt, TAPE M2 n bt := tape0 (by rw [r2.i (by unfold Srk Srl Srr Ssp Sly; omega)]; exact q7) r5
      have hLT : ∀ a k, (Slw a k ∨ Srk lc a k) → a < 78 := fun a k w => by
        unfold Slw Srd Srk Srl Srr Ssp Sly at w
        omega
      have hL : LWS M2 9 (mI M2 49) := by
        obtain ⟨j1, j2⟩ := i7
        have hx2 : LTX M2 (mn M) (mn M + 1) (mn M + 2) z.1 (cdF z.2) z.2.length := q12.fw (r2.fw (R := fun _ _ => False)) (fun k => ⟨fun w => by have := hLT _ _ (Or.inr w); omega, fun w => by have := hLT _ _ (Or.inr w); omega, fun w => by have := hLT _ _ (Or.inr w); omega⟩) (fun _ w => w)
        refine ⟨fun g y hg e => ?_, fun c' g hc' e57 hg => ?_⟩
        · rw [uR, q9] at e
          by_cases w : g = lc
          · rw [if_pos w] at e
            cases e
            exact hx2.1
          · rw [if_neg w] at e
            exact hFw.ok (j1 g y hg e)
        · rw [r7] at e57
          have ec : lc + 1 = c' := (neqI (by omega) (by omega)).mp e57
          rw [uR, q9]
          by_cases w : g = lc
          · subst w
            have hle := tkL_le (bt := bt) (n := n)
            have h400 := ht.1
            obtain ⟨sms, s1, s2, s3, s4, s5⟩ := law_read (fun j h => tkT_end (bt := bt) (n := n) h) (by omega) hr
            refine ⟨mn M, sms, if_pos rfl, ⟨z.1, cdF z.2, z.2.length, h78, hx2, s2, s3, fun w4 => s5 (q11 ?_)⟩, tkT bt n, tkL bt n, r8, by omega, fun j h => tkT_end h, fun j hj => (tk_lt (fun i hi => (ht.2.2.2 i hi).1) j).2.2 hj, s1⟩
            rw [r2.i (fun w => by have := hLT _ _ (Or.inr w); omega), q10] at w4
            exact (b1_0 ay).mp w4
          · rw [if_neg w]
            obtain ⟨tx, sms, t1, t2, T, len, ⟨t3, t4⟩, t5, t6, t7, t8⟩ := j2 lc g (by omega) h57 (by omega)
            obtain ⟨y1, y2, y3⟩ := t2.ht
            refine ⟨tx, sms, t1, t2.fw hFw (fun k => ⟨fun w => by have := hLT _ _ w; have := y1.1; omega, fun w => by have := hLT _ _ w; have := y2.1; omega, fun w => by have := hLT _ _ w; have := y3.1; omega⟩) (fun k w => by unfold Rlw at w; have := y1.1; omega), T, len, ⟨?_, fun j hj => ?_⟩, t5, t6, t7, t8⟩
            · rw [k49 _ (by omega) (by omega) (by omega) (by omega)]
              exact t3
            · rw [k49 _ (by omega) (by omega) (by omega) (by omega), k49 _ (by omega) (by omega) (by omega) (by omega)]
              exact t4 j hj
      have hn : mn M2 = mn M + 3 := by rw [r2.1, q3]
      have hz : mz M2 ≤ mz M + 500 := by rw [r2.2.1]; exact q4
      have hgo := INV0.step hc h hR2 hq hFw (by omega) (fun a k w => ⟨fun e => ?_, fun e => ?_, fun e => ?_, fun e => ?_, fun e => ?_, fun e => by have := e.1; have := hLT _ _ w; omega⟩) (fun a k w => ⟨fun e => by unfold Rlw at w; omega, fun e => by unfold Rlw at w; omega, fun e => by unfold Rlw at w; have := e.1; omega⟩) hT hP hL
      · exact ⟨hgo, hFw.up (fun a k w => Or.inl (by unfold Slw Srd Srk Srl Srr Ssp Sly at w; omega)) (fun a k w => Or.inl w), by omega, hz, hq⟩
      all_goals
        subst e
        unfold Slw Srd Srk Srl Srr Ssp Sly at w
        omega
