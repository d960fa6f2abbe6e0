/-! a table of STEPS to one DISH -/
theorem ns_n {n : Nat} (h : n < 32768) : ns (nI n) = nI n := by
  unfold ns
  apply Int32.toInt_inj.mp
  rw [Int16.toInt_toInt32, Int32.toInt_toInt16, nI_tI (by omega)]
  exact Int.bmod_eq_of_le (by omega) (by omega)
theorem ns_m : ns (-1) = -1 := by decide
theorem nar_ns (x : Int32) : vp_nar .short x = ns x := by
  unfold vp_nar ns
  simp [narrow]
theorem psh_n {n : Nat} (h : n < 32768) : psh (nI n) := by
  have e := ns_n h
  unfold ns at e
  constructor
  · simp [narrow]
    exact e
  · have t := nI_tI (n := n) (by omega)
    simp [fits]
    simp only [Int32.le_iff_toInt_le, t]
    first | decide | skip
    refine ⟨?_, ?_⟩
    · show (-32768 : Int) ≤ (n : Int)
      omega
    · show (n : Int) ≤ (32767 : Int)
      omega
def TB (M : Mem) (d : Nat) : Prop := 78 ≤ d ∧ okO M 2 d ∧ mR M d 0 = some 1 ∧ mR M d 1 = some 21 ∧ mR M d 2 = some (d + 1) ∧ mR M d 3 = some (d + 2) ∧ okO M 16 (d + 1) ∧ mL M (d + 1) = 9331 ∧ okO M 16 (d + 2) ∧ mL M (d + 2) = 9331
theorem TB.fr {S : Nat → Nat → Prop} {M M1 : Mem} {d : Nat} (h : TB M d) (hF : Fr S M M1) : TB M1 d := by
  obtain ⟨h1, h2, h3, h4, h5, -⟩ := hF
  unfold TB okO at h ⊢
  rw [h1, h3, h4, h5]
  exact h
def TC (M : Mem) (d : Nat) (Q : List Nat) (D : Nat → Option Nat) : Prop := mI M d 5 = nI Q.length ∧ (∀ p, p < 9331 → mI M (d + 1) p = oI (D p)) ∧ (∀ i p, Q[i]? = some p → mI M (d + 2) i = nI p) ∧ ∀ p, p ∈ Q → p < 9331
/-- the rows of a table -/
def Std (d a _k : Nat) : Prop := a = d ∨ a = d + 1 ∨ a = d + 2
theorem TB.nh {M : Mem} {d : Nat} (h : TB M d) {a k : Nat} (w : Std d a k) : 78 ≤ a ∧ ¬ HT M a := by
  obtain ⟨h1, h2, h3, h4, h5, h6, h7, h8, h9, h10⟩ := h
  rcases w with rfl | rfl | rfl
  · exact ⟨h1, fun q => by have := h2.2; rcases q.2 with u | u | u | ⟨u, _⟩ <;> omega⟩
  · exact ⟨by omega, fun q => by have := h7.2; rcases q.2 with u | u | u | ⟨u, _⟩ <;> omega⟩
  · exact ⟨by omega, fun q => by have := h9.2; rcases q.2 with u | u | u | ⟨u, _⟩ <;> omega⟩
theorem MID.st {M M1 : Mem} {d : Nat} (h : MID M) (hT : TB M d) (hF : Fr (Std d) M M1) : MID M1 ∧ mI M1 49 = mI M 49 := h.fw (hF.fw (R := fun _ _ => False)) (fun a k w => by
  obtain ⟨h1, h2⟩ := hT.nh w
  exact ⟨by unfold Frl; omega, h2⟩) (fun _ _ w => w.elim)
theorem OPN.st {M M1 : Mem} {B y d : Nat} (h : OPN B y M) (h78 : 78 ≤ mn M) (hT : TB M d) (hF : Fr (Std d) M M1) : OPN B y M1 := h.fw h78 (hF.fw (R := fun _ _ => False)) (fun a k w => by
  obtain ⟨h1, h2⟩ := hT.nh w
  exact ⟨by omega, by omega, by omega, by omega, h2⟩) (fun _ _ w => w.elim)
theorem nc_none {α : Type} {r : Option Nat} (h : r = none) {a : Option α} {f : Nat → Option α} : ncase r a f = a := by
  subst h
  rfl
theorem wt_free {M : Mem} (hL : LayC M) (h : mR M 21 3 = none) (p1 p2 p3 p4 p5 q5 : Int32) : f_X8_weightOf M 21 p1 p2 p3 p4 p5 = f_X8_weightOf M 21 p1 p2 p3 p4 q5 := by
  have y0 : okO M 8 21 := by unfold LayC at hL; simp only [hL]
  have e : ∀ x, wtJ M p1 p2 p3 p4 x = some (M, 1) := fun x => by
    rw [wtJ_eq, grd_y y0, nc_none h]
  rw [weightOf_eq (p5 := p5), weightOf_eq (p5 := q5), e p5, e q5]
/-- what a change weighs; how many PINCHES there are must be right only where a LAW is asked -/
theorem m_weigh {B y : Nat} {M : Mem} (h : MID M) (hO : OPN B y M) (hB : B < 16777216) {s t p n hh : Nat} (hs : s < 5) (ht : t < 6) (hp : p < 6) (hn : n ≤ 5) (h5 : hh ≤ 5) {hv : Int32} (hv' : mR M 21 3 = none ∨ hv = nI hh) : TT (f_X8_weightOf M 21 (nI s) (nI t) (nI p) (nI n) hv) (fun q => MID q.1 ∧ OPN B y q.1 ∧ mI q.1 49 = mI M 49 ∧ Fr Ssc M q.1 ∧ (q.2 = -1 ↔ ¬ WOK (mI M 49) y s t p n hh)) := by
  have e : f_X8_weightOf M 21 (nI s) (nI t) (nI p) (nI n) hv = f_X8_weightOf M 21 (nI s) (nI t) (nI p) (nI n) (nI hh) := by
    rcases hv' with q | q
    · exact wt_free h.1.1 q _ _ _ _ _ _
    · rw [q]
  rw [e]
  obtain ⟨SC, c1, c2, c3⟩ := hO.run h.1.2.1 hB
  refine (c2.1 M h.1.1 c1 s t p n hh hs ht hp hn h5).mono ?_
  rintro q ⟨a1, a2, a3⟩
  obtain ⟨b1', b2⟩ := h.fr a1 (fun a k w => by unfold Ssc at w; unfold Frl; omega)
  refine ⟨b1', c3 Ssc q.1 a1 (fun a k w => by unfold Ssc at w; omega) a2, b2, a1, ?_⟩
  unfold WOK
  rw [a3, oI_m1]
  · exact ⟨fun w q => q w, fun w => Classical.byContradiction w⟩
  · intro u hu
    unfold wq at hu
    split at hu
    · cases hu
    · have := c2.2.1 _ _ _ _ _ _ hu
      omega
def Sdi (d a k : Nat) : Prop := Ssc a k ∨ (a = d ∧ k = 5) ∨ a = d + 1 ∨ a = d + 2
/-- in the midst of spreading: the head is to, e STEPS away -/
def UST (K : Nat → Int32) (B y goal d kk to e : Nat) (M0 M : Mem) : Prop := MID M ∧ OPN B y M ∧ mI M 49 = K ∧ Fr (Sdi d) M0 M ∧ TB M d ∧ mI M d 6 = nI (e + 1) ∧ ∃ Q D, TC M d Q D ∧ BFS (rdjK K y) goal Q kk D ∧ Q[kk]? = some to ∧ D to = some e
def GRW (d : Nat) (M M1 : Mem) : Prop := ∀ p, p < 9331 → mI M (d + 1) p ≠ -1 → mI M1 (d + 1) p ≠ -1
theorem GRW.rf {d : Nat} {M : Mem} : GRW d M M := fun _ _ h => h
theorem GRW.tr {d : Nat} {M M1 M2 : Mem} (h : GRW d M M1) (h2 : GRW d M1 M2) : GRW d M M2 := fun p hp q => h2 p hp (h p hp q)
theorem BFS.ql {adj : Nat → Nat → Prop} {a : Nat} {Q : List Nat} {k : Nat} {D : Nat → Option Nat} (h : BFS adj a Q k D) (hq : ∀ p, p ∈ Q → p < 9331) : Q.length ≤ 9331 := nodup_le 9331 Q hq h.2.2.1
theorem BFS.dlt {adj : Nat → Nat → Prop} {a : Nat} {Q : List Nat} {k : Nat} {D : Nat → Option Nat} (h : BFS adj a Q k D) (hq : ∀ p, p ∈ Q → p < 9331) {p d : Nat} (hd : D p = some d) : d < 9331 := by
  obtain ⟨i, hi, ei⟩ := List.getElem_of_mem ((h.2.1 p).mpr ⟨d, hd⟩)
  have := h.2.2.2.2.2.2.2.2 i p d (by rw [List.getElem?_eq_getElem hi, ei]) hd
  have := h.ql hq
  omega
noncomputable def NTM (M : Mem) (d r : Nat) (x : Int32) (n : Nat) : Mem := wI (wI (wI M (d + 1) r x) (d + 2) n (nI r)) d 5 (nI (n + 1))
theorem NTM_fr {M : Mem} {d r n : Nat} {x : Int32} : Fr (fun a k => (a = d ∧ k = 5) ∨ a = d + 1 ∨ a = d + 2) M (NTM M d r x n) := ((Fr.rf.wI (Or.inr (Or.inl rfl))).wI (Or.inr (Or.inr rfl))).wI (Or.inl ⟨rfl, rfl⟩)
theorem NTM_v {M : Mem} {d r n : Nat} {x : Int32} : mI (NTM M d r x n) d 5 = nI (n + 1) ∧ (∀ p, mI (NTM M d r x n) (d + 1) p = if p = r then x else mI M (d + 1) p) ∧ ∀ i, mI (NTM M d r x n) (d + 2) i = if i = n then nI r else mI M (d + 2) i := by
  unfold NTM
  refine ⟨mI_wIs, fun p => ?_, fun i => ?_⟩
  · rw [mI_wI_row (by omega), mI_wI_row (by omega), mI_wI]
    by_cases w : p = r
    · rw [if_pos ⟨rfl, w⟩, if_pos w]
    · rw [if_neg (fun q => w q.2), if_neg w]
  · rw [mI_wI_row (by omega), mI_wI]
    by_cases w : i = n
    · rw [if_pos ⟨rfl, w⟩, if_pos w]
    · rw [if_neg (fun q => w q.2), if_neg w, mI_wI_row (by omega)]
theorem nrg {r : Nat} (h : r < 9331) : ¬ nI r < 0 ∧ ¬ (9331 : Int32) ≤ nI r := by
  constructor
  · rw [show (0 : Int32) = nI 0 from rfl, nltI (by omega) (by omega)]
    omega
  · rw [show (9331 : Int32) = nI 9331 from rfl, nleI (by omega) (by omega)]
    omega
theorem c_note {M : Mem} {d : Nat} (hT : TB M d) {r n e : Nat} (hr : r < 9331) (hn : n < 9331) (h5 : mI M d 5 = nI n) (h6 : mI M d 6 = nI e) (he : e < 32768) : f_X2_note M d (nI r) = some (NTM M d r (nI e) n) := by
  obtain ⟨h1, h2, h3, h4, h5', h6', h7, h8, h9, h10⟩ := hT
  unfold f_X2_note
  rw [grd_y h2, h5, h6, if_neg (fun q => by rw [show (9331 : Int32) = nI 9331 from rfl] at q; have := (nleI (by omega) (by omega)).mp q; omega), if_neg (nrg hr).1, if_neg (nrg hr).2, h5', Option.bind_some, grd_y h7, h8, grd_y ((nvp (by omega)).mpr (by omega)), nclampI (by omega), nar_ns, ns_n he, ns_n (by omega), nar_ns, ns_n (by omega)]
  simp only [bv, mR_wI, mL_wI, ok_wI]
  rw [mI_wI_row (a := d + 1) (b := d) (by omega), h5, h6', Option.bind_some, grd_y h9, h10, grd_y ((nvp (by omega)).mpr (by omega)), nclampI (by omega), mI_wI_row (a := d + 2) (b := d) (by omega), mI_wI_row (a := d + 1) (b := d) (by omega), h5, nsucc]
  rfl
theorem UST.note {K : Nat → Int32} {B y goal d kk to e : Nat} {M0 M : Mem} (h : UST K B y goal d kk to e M0 M) {r : Nat} (hr : r < 9331) (hm : mI M (d + 1) r = -1) (ha : rdjK K y to r) : TT (f_X2_note M d (nI r)) (fun M1 => UST K B y goal d kk to e M0 M1 ∧ GRW d M M1 ∧ mI M1 (d + 1) r ≠ -1) := by
  obtain ⟨u1, u2, u3, u4, u5, u6, Q, D, ⟨t1, t2, t3, t4⟩, b1', b2, b3⟩ := h
  have hdr : D r = none := by
    have := t2 r hr
    rw [hm] at this
    exact (oI_m1 (fun u hu => by have := b1'.dlt t4 hu; omega)).mp this.symm
  have hrq : r ∉ Q := fun w => by
    obtain ⟨x, hx⟩ := (b1'.2.1 r).mp w
    rw [hdr] at hx
    cases hx
  have he := b1'.dlt t4 b3
  have hB2 := b1'.add b2 b3 ha hdr (fun x => rfl)
  have hq2 : ∀ p, p ∈ Q ++ [r] → p < 9331 := fun p hp => by
    rcases List.mem_append.mp hp with w | w
    · exact t4 p w
    · rw [List.mem_singleton] at w
      omega
  have hlen := hB2.ql hq2
  rw [List.length_append, List.length_singleton] at hlen
  rw [c_note u5 hr (by omega) t1 u6 (by omega), TT_some]
  have f := NTM_fr (M := M) (d := d) (r := r) (n := Q.length) (x := nI (e + 1))
  obtain ⟨v1, v2, v3⟩ := NTM_v (M := M) (d := d) (r := r) (n := Q.length) (x := nI (e + 1))
  generalize NTM M d r (nI (e + 1)) Q.length = M1 at *
  have f' : Fr (Std d) M M1 := f.up (fun a k w => by unfold Std; omega)
  obtain ⟨m1, k1⟩ := u1.st u5 f'
  refine ⟨⟨m1, u2.st u1.2.1 u5 f', by rw [k1]; exact u3, u4.tr (f.up (fun a k w => Or.inr w)), u5.fr f, by rw [f.i (by omega)]; exact u6, Q ++ [r], _, ⟨by rw [v1, List.length_append, List.length_singleton], fun p hp => ?_, fun i p hi => ?_, hq2⟩, hB2, ?_, ?_⟩, fun p hp hq => ?_, ?_⟩
  · rw [v2 p]
    by_cases w : p = r
    · rw [if_pos w, if_pos w]
      rfl
    · rw [if_neg w, if_neg w]
      exact t2 p hp
  · rw [v3 i]
    by_cases w : i < Q.length
    · rw [if_neg (by omega)]
      rw [List.getElem?_append_left w] at hi
      exact t3 i p hi
    · have hi2 := (List.getElem?_eq_some_iff.mp hi).1
      rw [List.length_append, List.length_singleton] at hi2
      have : i = Q.length := by omega
      subst this
      rw [if_pos rfl]
      rw [List.getElem?_append_right (by omega), Nat.sub_self] at hi
      cases hi
      rfl
  · have := (List.getElem?_eq_some_iff.mp b2).1
    rw [List.getElem?_append_left this]
    exact b2
  · rw [if_neg (fun w => by rw [← w, b3] at hdr; cases hdr)]
    exact b3
  · rw [v2 p]
    by_cases w : p = r
    · rw [if_pos w]
      exact neg1_nI (by omega)
    · rw [if_neg w]
      exact hq
  · rw [v2 r, if_pos rfl]
    exact neg1_nI (by omega)
theorem UST.sc {K : Nat → Int32} {B y goal d kk to e : Nat} {M0 M M1 : Mem} (h : UST K B y goal d kk to e M0 M) (m1 : MID M1) (o1 : OPN B y M1) (k1 : mI M1 49 = mI M 49) (f1 : Fr Ssc M M1) : UST K B y goal d kk to e M0 M1 ∧ GRW d M M1 ∧ ∀ p, mI M1 (d + 1) p = mI M (d + 1) p := by
  obtain ⟨u1, u2, u3, u4, u5, u6, Q, D, ⟨t1, t2, t3, t4⟩, b1', b2, b3⟩ := h
  have h78 := u5.1
  have ei : ∀ a k, 78 ≤ a → mI M1 a k = mI M a k := fun a k w => f1.i (by unfold Ssc; omega)
  refine ⟨⟨m1, o1, by rw [k1]; exact u3, u4.tr (f1.up (fun a k w => Or.inl w)), u5.fr f1, by rw [ei d 6 h78]; exact u6, Q, D, ⟨by rw [ei d 5 h78]; exact t1, fun p hp => by rw [ei (d + 1) p (by omega)]; exact t2 p hp, fun i p hi => by rw [ei (d + 2) i (by omega)]; exact t3 i p hi, t4⟩, b1', b2, b3⟩, fun p hp hq => by rw [ei (d + 1) p (by omega)]; exact hq, fun p => ei (d + 1) p (by omega)⟩
/-- one DISH is tried -/
theorem u_try {K : Nat → Int32} {B y goal d kk to e : Nat} {M0 M : Mem} (h : UST K B y goal d kk to e M0 M) (hB : B < 16777216) {r : Nat} (hr : r < 9331) {s t p n hh : Nat} (hs : s < 5) (ht : t < 6) (hp : p < 6) (hn : n ≤ 5) (h5 : hh ≤ 5) {hv : Int32} (hv' : mR M 21 3 = none ∨ hv = nI hh) (ha : WOK K y s t p n hh → rdjK K y to r) {ρ : Type} {j : Mem → Option ρ} {P : ρ → Prop} (hj : ∀ M1, UST K B y goal d kk to e M0 M1 → GRW d M M1 → mR M1 = mR M → (WOK K y s t p n hh → mI M1 (d + 1) r ≠ -1) → TT (j M1) P) : TT (if mI M (d + 1) r = -1 then (Option.bind (f_X8_weightOf M 21 (nI s) (nI t) (nI p) (nI n) hv) (fun q => if q.2 = -1 then (j q.1) else (Option.bind (f_X2_note q.1 d (nI r)) (fun q2 => j q2)))) else (j M)) P := by
  by_cases w : mI M (d + 1) r = -1
  · rw [if_pos w, TT_bind]
    refine (m_weigh h.1 h.2.1 hB hs ht hp hn h5 hv').mono ?_
    rintro ⟨M1, x⟩ ⟨a1, a2, a3, a4, a5⟩
    simp only at a1 a2 a3 a4 a5 ⊢
    obtain ⟨b1', b2, b3⟩ := h.sc a1 a2 a3 a4
    have hk : mI M 49 = K := h.2.2.1
    rw [hk] at a5
    by_cases w2 : x = -1
    · rw [if_pos w2]
      exact hj M1 b1' b2 a4.2.2.2.2.1 (fun q => absurd q (a5.mp w2))
    · rw [if_neg w2, TT_bind]
      have hw : WOK K y s t p n hh := Classical.byContradiction (fun q => w2 (a5.mpr q))
      have hfr := b1'.2.2.2.1.2.2.2.2.1
      refine (b1'.note hr (by rw [b3]; exact w) (ha hw)).mono ?_
      rintro M2 ⟨c1, c2, c3⟩
      refine hj M2 c1 (b2.tr c2) ?_ (fun _ => c3)
      rw [c1.2.2.2.1.2.2.2.2.1, h.2.2.2.1.2.2.2.2.1]
  · rw [if_neg w]
    exact hj M h GRW.rf rfl (fun _ => w)
