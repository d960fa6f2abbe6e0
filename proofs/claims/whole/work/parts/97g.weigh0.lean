/-! what the class's scale tells, without a LAW -/
def SCN (gt : Nat → Bool) (tn : Nat) (M : Mem) : Prop := mR M 21 3 = none ∧ (∀ t, t < 6 → (mI M 3 t = 0 ↔ gt t = false)) ∧ mI M 21 4 = nI tn ∧ CLB M tn
theorem WSp_none {gt : Nat → Bool} {K : Nat → Int32} {y tn : Nat} : WSp (SCN gt tn) gt (fun s t p n h => lwL none K y s t p n h) := by
  refine ⟨fun M hL hSC s t p n h hs ht hp hn hh => ?_, fun s t p n h w e => lwL_le e, fun S M M1 hS1 hF hSC => ?_⟩
  · obtain ⟨b1', b5, b6, b7⟩ := hSC
    have hJ : wtJ M (nI s) (nI t) (nI p) (nI n) (nI h) = some (M, 1) := by
      rw [wtJ_eq, b1']
      have y0 : okO M 8 21 := by unfold LayC at hL; simp only [hL]
      rw [grd_y y0]
      rfl
    have es1 : (nI s = 1) ↔ s = 1 := by rw [show (1 : Int32) = nI 1 from rfl]; exact neqI (by omega) (by omega)
    have es3 : (nI s = 3) ↔ s = 3 := by rw [show (3 : Int32) = nI 3 from rfl]; exact neqI (by omega) (by omega)
    have main : ¬ ((s = 1 ∨ s = 3) ∧ gt t = false) → TT (some (M, (1 : Int32))) (fun q => Fr Ssc M q.1 ∧ SCN gt tn q.1 ∧ q.2 = oI (wq gt (fun s t p n h => lwL none K y s t p n h) s t p n h)) := by
      intro w
      refine ⟨_, rfl, Fr.rf, ⟨b1', b5, b6, b7⟩, ?_⟩
      unfold wq
      rw [if_neg w]
      rfl
    have gate : (s = 1 ∨ s = 3) → TT (grd (okO M 8 21) (Option.bind (mR M 21 0) (fun r97 => grd (okO M 10 r97) (Option.bind (mR M r97 1) (fun r99 => grd (okO M 14 r99) (grd (vp_in (nI t) (mL M r99)) (if (mI M r99 (nI t).toNatClampNeg) = 0 then (some (M, (-1 : Int32))) else (some (M, (1 : Int32)))))))))) (fun q => Fr Ssc M q.1 ∧ SCN gt tn q.1 ∧ q.2 = oI (wq gt (fun s t p n h => lwL none K y s t p n h) s t p n h)) := by
      intro w
      unfold LayC at hL
      simp only [hL, grd_T, Option.bind_some]
      rw [grd_y ((nvp (by omega)).mpr (by omega)), nclampI (by omega)]
      by_cases w2 : mI M 3 t = 0
      · rw [if_pos w2]
        refine ⟨_, rfl, Fr.rf, ⟨b1', b5, b6, b7⟩, ?_⟩
        unfold wq
        rw [if_pos ⟨w, (b5 t ht).mp w2⟩]
        rfl
      · rw [if_neg w2]
        exact main (fun q => w2 ((b5 t ht).mpr q.2))
    rw [weightOf_eq, hJ]
    by_cases w1 : s = 1
    · rw [if_pos (es1.mpr w1)]
      exact gate (Or.inl w1)
    · rw [if_neg (fun q => w1 (es1.mp q))]
      by_cases w3 : s = 3
      · rw [if_pos (es3.mpr w3)]
        exact gate (Or.inr w3)
      · rw [if_neg (fun q => w3 (es3.mp q))]
        exact main (fun q => by omega)
  · obtain ⟨b1', b5, b6, b7⟩ := hSC
    refine ⟨by rw [hF.2.2.2.2.1]; exact b1', fun t ht => ?_, by rw [hF.i (fun q => by have := hS1 _ _ q; omega)]; exact b6, fun s t p n h h1 h2 h3 h4 h5 => ?_⟩
    · rw [hF.i (fun q => by have := hS1 _ _ q; omega)]
      exact b5 t ht
    · rw [hF.i (fun q => by have := hS1 _ _ q; omega)]
      exact b7 s t p n h h1 h2 h3 h4 h5
/-! a LAW that asks for no year -/
theorem mrunN_loc {C : Nat → Nat} {L : Nat} {W W' : Nat → Int} (hw : ∀ a, a < L → C a % 16 = 2 → W (C a / 16) = W' (C a / 16)) : ∀ n a st, mrunN C L W n a st = mrunN C L W' n a st := by
  intro n
  induction n with
  | zero => intro a st; rfl
  | succ n ih =>
    intro a st
    have e : mstep C L W a st = mstep C L W' a st := by
      unfold mstep
      by_cases h1 : L ≤ a
      · rw [if_pos h1, if_pos h1]
      · rw [if_neg h1, if_neg h1]
        by_cases h2 : C a % 16 = 1
        · simp only [h2, if_true]
        · by_cases h3 : C a % 16 = 2
          · simp only [h3, hw a (by omega) h3]
          · rw [if_neg (by omega), if_neg (by omega)]
    rw [mrunN, mrunN, e]
    split
    · exact ih _ _
    · rfl
theorem RUN_fun {C : Nat → Nat} {L : Nat} {W : Nat → Int} : ∀ n m a st r r', mrunN C L W n a st = some r → mrunN C L W m a st = some r' → r = r' := by
  intro n
  induction n with
  | zero => intro m a st r r' h; cases h
  | succ n ih =>
    intro m a st r r' h h'
    cases m with
    | zero => cases h'
    | succ m =>
      rw [mrunN] at h h'
      cases hs : mstep C L W a st with
      | inl s => rw [hs] at h h'; exact ih m _ _ _ _ h h'
      | inr v => rw [hs] at h h'; cases h; cases h'; rfl
theorem RUN_loc {C : Nat → Nat} {L : Nat} {W W' : Nat → Int} (hw : ∀ a, a < L → C a % 16 = 2 → W (C a / 16) = W' (C a / 16)) {a : Nat} {st : List Int} {r r' : Option Int} (h : RUN C L W a st r) (h' : RUN C L W' a st r') : r = r' := by
  obtain ⟨n, hn⟩ := h
  obtain ⟨m, hm⟩ := h'
  rw [← mrunN_loc hw] at hm
  exact RUN_fun n m a st r r' hn hm
/-- a text tells by the words that its code asks for, and by no other -/
theorem lawS_loc {C : Nat → Nat} {L : Nat} {cls : List CL} {sms : List SM} (hS : SMS C L cls sms) {W W' : Nat → Int32} (hw : ∀ a, a < L → C a % 16 = 2 → W (C a / 16) = W' (C a / 16)) : lawS sms W = lawS sms W' := by
  have hw' : ∀ a, a < L → C a % 16 = 2 → tI W (C a / 16) = tI W' (C a / 16) := by
    intro a h1 h2
    unfold tI
    rw [hw a h1 h2]
  have key : ∀ s, s ∈ sms → s.2.1 W = s.2.1 W' ∧ (s.1 = false → s.2.2 W = s.2.2 W') := by
    intro s hs
    obtain ⟨i, hi, rfl⟩ := List.mem_iff_getElem.mp hs
    have hil : i < cls.length := by rw [← hS.1]; exact hi
    obtain ⟨c1, c2, c3, c4⟩ := hS.2 i _ _ (List.getElem?_eq_getElem hil) (List.getElem?_eq_getElem hi)
    refine ⟨?_, fun h => ?_⟩
    · cases ht : cls[i].2.2.1 with
      | none => rw [c3 ht W, c3 ht W']
      | some t =>
        have e := RUN_loc hw' ((c2 t ht).2 W) ((c2 t ht).2 W')
        cases h1 : sms[i].2.1 W with
        | none =>
          cases h2 : sms[i].2.1 W' with
          | none => rfl
          | some b => rw [h1, h2] at e; cases e
        | some a =>
          cases h2 : sms[i].2.1 W' with
          | none => rw [h1, h2] at e; cases e
          | some b =>
            rw [h1, h2] at e
            cases a <;> cases b <;> first | rfl | exact absurd e (by decide)
    · obtain ⟨u, u1, u2, u3, u4⟩ := c4 h
      exact RUN_loc hw' (u4 W) (u4 W')
  have kb : ∀ l : List SM, (∀ s, s ∈ l → s ∈ sms) → barS l W = barS l W' := by
    intro l
    induction l with
    | nil => intro _; rfl
    | cons s r ih =>
      intro hl
      have h1 := (key s (hl s (List.mem_cons_self))).1
      have h2 := ih (fun x hx => hl x (List.mem_cons_of_mem _ hx))
      unfold barS at h2 ⊢
      rw [List.any_cons, List.any_cons, h1, h2]
  have kf : ∀ (l : List SM) (a : Nat), (∀ s, s ∈ l → s ∈ sms) → l.foldl (weiS W) a = l.foldl (weiS W') a := by
    intro l
    induction l with
    | nil => intro a _; rfl
    | cons s r ih =>
      intro a hl
      obtain ⟨h1, h2⟩ := key s (hl s (List.mem_cons_self))
      have e : weiS W a s = weiS W' a s := by
        unfold weiS
        rw [h1]
        by_cases w : s.1 = false ∧ s.2.1 W' = some true
        · rw [if_pos w, if_pos w, h2 w.1]
        · rw [if_neg w, if_neg w]
      rw [List.foldl_cons, List.foldl_cons, e]
      exact ih _ (fun x hx => hl x (List.mem_cons_of_mem _ hx))
  unfold lawS
  rw [kb sms (fun _ h => h), kf sms 1 (fun _ h => h)]
