/-! THE START: the constructors, one by one (written by wip/whole/start.py) -/
set_option maxHeartbeats 4000000 in
set_option maxRecDepth 100000 in
theorem si_1 : f_X10_init (XD dL2) 1 = some (XD dL33) := by
  unfold f_X10_init
  refine bvE (XD dL3) (by rw [ck6]; exact XD_nA) ?_
  refine grdE (by unfold okO; decide +kernel) ?_
  refine bvE (XD dL4) (by rw [zd2]; exact XD_wR) ?_
  refine bvE (XD dL5) (by rw [ck6]; exact XD_nA) ?_
  refine grdE (by unfold vp_in; decide +kernel) ?_
  refine bvE (XD dL6) (by rw [zd4, ck0]; exact XD_wI) ?_
  refine grdE (by unfold vp_in; decide +kernel) ?_
  refine bvE (XD dL7) (by rw [zd4, ck1]; exact XD_wI) ?_
  refine grdE (by unfold vp_in; decide +kernel) ?_
  refine bvE (XD dL8) (by rw [zd4, ck2]; exact XD_wI) ?_
  refine grdE (by unfold vp_in; decide +kernel) ?_
  refine bvE (XD dL9) (by rw [zd4, ck3]; exact XD_wI) ?_
  refine grdE (by unfold vp_in; decide +kernel) ?_
  refine bvE (XD dL10) (by rw [zd4, ck4]; exact XD_wI) ?_
  refine grdE (by unfold vp_in; decide +kernel) ?_
  refine bvE (XD dL11) (by rw [zd4, ck5]; exact XD_wI) ?_
  refine bvE (XD dL12) (by rw [zd4]; exact XD_wR) ?_
  refine bvE (XD dL13) (by rw [ck6]; exact XD_nA) ?_
  refine grdE (by unfold vp_in; decide +kernel) ?_
  refine bvE (XD dL14) (by rw [zd12, ck0]; exact XD_wI) ?_
  refine grdE (by unfold vp_in; decide +kernel) ?_
  refine bvE (XD dL15) (by rw [zd12, ck1]; exact XD_wI) ?_
  refine grdE (by unfold vp_in; decide +kernel) ?_
  refine bvE (XD dL16) (by rw [zd12, ck2]; exact XD_wI) ?_
  refine grdE (by unfold vp_in; decide +kernel) ?_
  refine bvE (XD dL17) (by rw [zd12, ck3]; exact XD_wI) ?_
  refine grdE (by unfold vp_in; decide +kernel) ?_
  refine bvE (XD dL18) (by rw [zd12, ck4]; exact XD_wI) ?_
  refine grdE (by unfold vp_in; decide +kernel) ?_
  refine bvE (XD dL19) (by rw [zd12, ck5]; exact XD_wI) ?_
  refine bvE (XD dL20) (by rw [zd12]; exact XD_wR) ?_
  refine bvE (XD dL21) (by rw [ck12]; exact XD_nA) ?_
  refine bvE (XD dL22) (by rw [zd20]; exact XD_wR) ?_
  refine bvE (XD dL23) (by rw [ck12]; exact XD_nA) ?_
  refine bvE (XD dL24) (by rw [zd22]; exact XD_wR) ?_
  refine bvE (XD dL25) (by rw [ck12]; exact XD_nA) ?_
  refine bvE (XD dL26) (by rw [zd24]; exact XD_wR) ?_
  refine bvE (XD dL27) (by rw [ck12]; exact XD_nA) ?_
  refine bvE (XD dL28) (by rw [zd26]; exact XD_wR) ?_
  refine bvE (XD dL29) (by rw [ck6]; exact XD_nA) ?_
  refine bvE (XD dL30) (by rw [zd28]; exact XD_wR) ?_
  refine bvE (XD dL31) (XD_wI) ?_
  refine bvE (XD dL32) (XD_wI) ?_
  refine bvE (XD dL33) (XD_wI) ?_
  exact rfl
set_option maxHeartbeats 4000000 in
set_option maxRecDepth 100000 in
theorem si_2 : f_X9_init (XD dL44) 15 12 800 = some (XD dL48) := by
  unfold f_X9_init
  refine grdE (by unfold nok; decide +kernel) ?_
  refine bvE (XD dL45) (by rw [show ((12 : Int32) * 6).toNatClampNeg = 72 from by decide]; exact XD_nA) ?_
  refine grdE (by unfold okO; decide +kernel) ?_
  refine bvE (XD dL46) (by rw [zd44]; exact XD_wR) ?_
  refine grdE (by unfold nok; decide +kernel) ?_
  refine bvE (XD dL47) (by rw [show (800 : Int32).toNatClampNeg = 800 from by decide]; exact XD_nA) ?_
  refine bvE (XD dL48) (by rw [zd46]; exact XD_wR) ?_
  exact rfl
set_option maxHeartbeats 4000000 in
set_option maxRecDepth 100000 in
theorem si_3 : f_X7_init (XD dL37) 11 = some (XD dL50) := by
  unfold f_X7_init
  refine bvE (XD dL38) (by rw [ck400]; exact XD_nA) ?_
  refine grdE (by unfold okO; decide +kernel) ?_
  refine bvE (XD dL39) (by rw [zd37]; exact XD_wR) ?_
  refine bvE (XD dL40) (by rw [ck401]; exact XD_nA) ?_
  refine bvE (XD dL41) (by rw [zd39]; exact XD_wR) ?_
  refine bvE (XD dL42) (by rw [ck401]; exact XD_nA) ?_
  refine bvE (XD dL43) (by rw [zd41]; exact XD_wR) ?_
  refine bvE (XD dL44) XD_nO ?_
  refine bndE (x := XD dL48) (by rw [zd43]; exact si_2) ?_
  refine bvE (XD dL49) (by rw [zd43]; exact XD_wR) ?_
  refine bvE (XD dL50) (XD_wI) ?_
  exact rfl
set_option maxHeartbeats 4000000 in
set_option maxRecDepth 100000 in
theorem si_4 : f_X3_init (XD dL52) 18 = some (XD dL56) := by
  unfold f_X3_init
  refine bvE (XD dL53) (by rw [ck88]; exact XD_nA) ?_
  refine grdE (by unfold okO; decide +kernel) ?_
  refine bvE (XD dL54) (by rw [zd52]; exact XD_wR) ?_
  refine bvE (XD dL55) (by rw [ck64]; exact XD_nA) ?_
  refine bvE (XD dL56) (by rw [zd54]; exact XD_wR) ?_
  exact rfl
set_option maxHeartbeats 4000000 in
set_option maxRecDepth 100000 in
theorem si_5 : f_X3_init (XD dL59) 22 = some (XD dL63) := by
  unfold f_X3_init
  refine bvE (XD dL60) (by rw [ck88]; exact XD_nA) ?_
  refine grdE (by unfold okO; decide +kernel) ?_
  refine bvE (XD dL61) (by rw [zd59]; exact XD_wR) ?_
  refine bvE (XD dL62) (by rw [ck64]; exact XD_nA) ?_
  refine bvE (XD dL63) (by rw [zd61]; exact XD_wR) ?_
  exact rfl
set_option maxHeartbeats 4000000 in
set_option maxRecDepth 100000 in
theorem si_6 : f_X8_init (XD dL58) 21 1 = some (XD dL67) := by
  unfold f_X8_init
  refine bvE (XD dL59) XD_nO ?_
  refine bndE (x := XD dL63) (by rw [zd58]; exact si_5) ?_
  refine grdE (by unfold okO; decide +kernel) ?_
  refine bvE (XD dL64) (by rw [zd58]; exact XD_wR) ?_
  refine bvE (XD dL65) (by rw [ck6480]; exact XD_nA) ?_
  refine bvE (XD dL66) (by rw [zd64]; exact XD_wR) ?_
  refine bvE (XD dL67) (XD_wR) ?_
  exact rfl
set_option maxHeartbeats 4000000 in
set_option maxRecDepth 100000 in
theorem si_7 : f_X6_init (XD dL70) 27 = some (XD dL74) := by
  unfold f_X6_init
  refine bvE (XD dL71) (by rw [ck5]; exact XD_nA) ?_
  refine grdE (by unfold okO; decide +kernel) ?_
  refine bvE (XD dL72) (by rw [zd70]; exact XD_wR) ?_
  refine bvE (XD dL73) (by rw [ck6]; exact XD_nA) ?_
  refine bvE (XD dL74) (by rw [zd72]; exact XD_wR) ?_
  exact rfl
set_option maxHeartbeats 4000000 in
set_option maxRecDepth 100000 in
theorem si_8 : f_X1_init (XD dL69) 26 1 21 = some (XD dL81) := by
  unfold f_X1_init
  refine bvE (XD dL70) XD_nO ?_
  refine bndE (x := XD dL74) (by rw [zd69]; exact si_7) ?_
  refine grdE (by unfold okO; decide +kernel) ?_
  refine bvE (XD dL75) (by rw [zd69]; exact XD_wR) ?_
  refine bvE (XD dL76) (by rw [ck45]; exact XD_nA) ?_
  refine bvE (XD dL77) (by rw [zd75]; exact XD_wR) ?_
  refine bvE (XD dL78) (by rw [ck45]; exact XD_nA) ?_
  refine bvE (XD dL79) (by rw [zd77]; exact XD_wR) ?_
  refine bvE (XD dL80) (XD_wR) ?_
  refine bvE (XD dL81) (XD_wR) ?_
  exact rfl
set_option maxHeartbeats 4000000 in
set_option maxRecDepth 100000 in
theorem si_9 : f_X4_init (XD dL83) 32 1 21 = some (XD dL87) := by
  unfold f_X4_init
  refine bvE (XD dL84) (by rw [ck3]; exact XD_nA) ?_
  refine grdE (by unfold okO; decide +kernel) ?_
  refine bvE (XD dL85) (by rw [zd83]; exact XD_wR) ?_
  refine bvE (XD dL86) (XD_wR) ?_
  refine bvE (XD dL87) (XD_wR) ?_
  exact rfl
set_option maxHeartbeats 4000000 in
set_option maxRecDepth 100000 in
theorem si_10 : f_X5_init (XD dL89) 34 = some (XD dL103) := by
  unfold f_X5_init
  refine bvE (XD dL90) (by rw [ck6]; exact XD_nA) ?_
  refine grdE (by unfold okO; decide +kernel) ?_
  refine bvE (XD dL91) (by rw [zd89]; exact XD_wR) ?_
  refine bvE (XD dL92) (by rw [ck36]; exact XD_nA) ?_
  refine bvE (XD dL93) (by rw [zd91]; exact XD_wR) ?_
  refine bvE (XD dL94) (by rw [ck6]; exact XD_nA) ?_
  refine bvE (XD dL95) (by rw [zd93]; exact XD_wR) ?_
  refine bvE (XD dL96) (by rw [ck6]; exact XD_nA) ?_
  refine bvE (XD dL97) (by rw [zd95]; exact XD_wR) ?_
  refine bvE (XD dL98) (by rw [ck64]; exact XD_nA) ?_
  refine bvE (XD dL99) (by rw [zd97]; exact XD_wR) ?_
  refine bvE (XD dL100) (by rw [ck7]; exact XD_nA) ?_
  refine bvE (XD dL101) (by rw [zd99]; exact XD_wR) ?_
  refine bvE (XD dL102) (by rw [ck7]; exact XD_nA) ?_
  refine bvE (XD dL103) (by rw [zd101]; exact XD_wR) ?_
  exact rfl
set_option maxHeartbeats 4000000 in
set_option maxRecDepth 100000 in
theorem si_11 : f_X0_init (XD dL105) 42 1 21 26 = some (XD dL113) := by
  unfold f_X0_init
  refine bvE (XD dL106) (by rw [ck0]; exact XD_nA) ?_
  refine grdE (by unfold okO; decide +kernel) ?_
  refine bvE (XD dL107) (by rw [zd105]; exact XD_wR) ?_
  refine bvE (XD dL108) (by rw [ck0]; exact XD_nA) ?_
  refine bvE (XD dL109) (by rw [zd107]; exact XD_wR) ?_
  refine bvE (XD dL110) (XD_wI) ?_
  refine bvE (XD dL111) (XD_wR) ?_
  refine bvE (XD dL112) (XD_wR) ?_
  refine bvE (XD dL113) (XD_wR) ?_
  exact rfl
set_option maxHeartbeats 4000000 in
set_option maxRecDepth 100000 in
theorem si_12 : f_X11_init (XD dL1) 0 = some (XD dL120) := by
  unfold f_X11_init
  refine bvE (XD dL2) XD_nO ?_
  refine bndE (x := XD dL33) (by rw [zd1]; exact si_1) ?_
  refine grdE (by unfold okO; decide +kernel) ?_
  refine bvE (XD dL34) (by rw [zd1]; exact XD_wR) ?_
  refine bvE (XD dL35) (by rw [ck2]; exact XD_nA) ?_
  refine bvE (XD dL36) (by rw [zd34]; exact XD_wR) ?_
  refine bvE (XD dL37) XD_nO ?_
  refine bndE (x := XD dL50) (by rw [zd36]; exact si_3) ?_
  refine bvE (XD dL51) (by rw [zd36]; exact XD_wR) ?_
  refine bvE (XD dL52) XD_nO ?_
  refine bndE (x := XD dL56) (by rw [zd51]; exact si_4) ?_
  refine bvE (XD dL57) (by rw [zd51]; exact XD_wR) ?_
  refine bvE (XD dL58) XD_nO ?_
  refine bndE (x := 1) (by decide +kernel) ?_
  refine bndE (x := XD dL67) (by rw [zd57]; exact si_6) ?_
  refine bvE (XD dL68) (by rw [zd57]; exact XD_wR) ?_
  refine bvE (XD dL69) XD_nO ?_
  refine bndE (x := 1) (by decide +kernel) ?_
  refine bndE (x := 21) (by decide +kernel) ?_
  refine bndE (x := XD dL81) (by rw [zd68]; exact si_8) ?_
  refine bvE (XD dL82) (by rw [zd68]; exact XD_wR) ?_
  refine bvE (XD dL83) XD_nO ?_
  refine bndE (x := 1) (by decide +kernel) ?_
  refine bndE (x := 21) (by decide +kernel) ?_
  refine bndE (x := XD dL87) (by rw [zd82]; exact si_9) ?_
  refine bvE (XD dL88) (by rw [zd82]; exact XD_wR) ?_
  refine bvE (XD dL89) XD_nO ?_
  refine bndE (x := XD dL103) (by rw [zd88]; exact si_10) ?_
  refine bvE (XD dL104) (by rw [zd88]; exact XD_wR) ?_
  refine bvE (XD dL105) XD_nO ?_
  refine bndE (x := 1) (by decide +kernel) ?_
  refine bndE (x := 21) (by decide +kernel) ?_
  refine bndE (x := 26) (by decide +kernel) ?_
  refine bndE (x := XD dL113) (by rw [zd104]; exact si_11) ?_
  refine bvE (XD dL114) (by rw [zd104]; exact XD_wR) ?_
  refine bvE (XD dL115) (by rw [ck5]; exact XD_nA) ?_
  refine bvE (XD dL116) (by rw [zd114]; exact XD_wR) ?_
  refine bvE (XD dL117) (by rw [ck61]; exact XD_nA) ?_
  refine bvE (XD dL118) (by rw [zd116]; exact XD_wR) ?_
  refine bvE (XD dL119) (XD_wI) ?_
  refine bvE (XD dL120) (XD_wI) ?_
  exact rfl
noncomputable def stB (a0 : Nat) (s1067 : Mem × Int32) : Option ((Mem × Int32) ⊕ Mem) := if 6 ≤ s1067.2 then (some (.inr s1067.1)) else (Option.bind (mR s1067.1 a0 3) (fun r1076 => grd (okO s1067.1 14 r1076) (grd (vp_in (6 + s1067.2) (mL s1067.1 r1076)) (bv (wI s1067.1 r1076 (6 + s1067.2).toNatClampNeg 1) (fun M1079 => Option.bind (mR M1079 a0 3) (fun r1083 => grd (okO M1079 14 r1083) (grd (vp_in (12 + s1067.2) (mL M1079 r1083)) (bv (wI M1079 r1083 (12 + s1067.2).toNatClampNeg (-1)) (fun M1086 => bv (s1067.2 + 1 : Int32) (fun x1090 => some (.inl (M1086, x1090))))))))))))
theorem stB_0 : stB 47 (XD dL315, 0) = some (.inl (XD dL317, 1)) := by
  unfold stB
  rw [if_neg (by decide)]
  refine bndE (x := 49) (by decide +kernel) ?_
  refine grdE (by unfold okO; decide +kernel) ?_
  refine grdE (by unfold vp_in; decide +kernel) ?_
  refine bvE (XD dL316) (by rw [show (6 + (0 : Int32)).toNatClampNeg = 6 from by decide]; exact XD_wI) ?_
  refine bndE (x := 49) (by decide +kernel) ?_
  refine grdE (by unfold okO; decide +kernel) ?_
  refine grdE (by unfold vp_in; decide +kernel) ?_
  refine bvE (XD dL317) (by rw [show (12 + (0 : Int32)).toNatClampNeg = 12 from by decide]; exact XD_wI) ?_
  refine bvE (1) (by decide) ?_
  exact rfl
theorem stB_1 : stB 47 (XD dL317, 1) = some (.inl (XD dL319, 2)) := by
  unfold stB
  rw [if_neg (by decide)]
  refine bndE (x := 49) (by decide +kernel) ?_
  refine grdE (by unfold okO; decide +kernel) ?_
  refine grdE (by unfold vp_in; decide +kernel) ?_
  refine bvE (XD dL318) (by rw [show (6 + (1 : Int32)).toNatClampNeg = 7 from by decide]; exact XD_wI) ?_
  refine bndE (x := 49) (by decide +kernel) ?_
  refine grdE (by unfold okO; decide +kernel) ?_
  refine grdE (by unfold vp_in; decide +kernel) ?_
  refine bvE (XD dL319) (by rw [show (12 + (1 : Int32)).toNatClampNeg = 13 from by decide]; exact XD_wI) ?_
  refine bvE (2) (by decide) ?_
  exact rfl
theorem stB_2 : stB 47 (XD dL319, 2) = some (.inl (XD dL321, 3)) := by
  unfold stB
  rw [if_neg (by decide)]
  refine bndE (x := 49) (by decide +kernel) ?_
  refine grdE (by unfold okO; decide +kernel) ?_
  refine grdE (by unfold vp_in; decide +kernel) ?_
  refine bvE (XD dL320) (by rw [show (6 + (2 : Int32)).toNatClampNeg = 8 from by decide]; exact XD_wI) ?_
  refine bndE (x := 49) (by decide +kernel) ?_
  refine grdE (by unfold okO; decide +kernel) ?_
  refine grdE (by unfold vp_in; decide +kernel) ?_
  refine bvE (XD dL321) (by rw [show (12 + (2 : Int32)).toNatClampNeg = 14 from by decide]; exact XD_wI) ?_
  refine bvE (3) (by decide) ?_
  exact rfl
theorem stB_3 : stB 47 (XD dL321, 3) = some (.inl (XD dL323, 4)) := by
  unfold stB
  rw [if_neg (by decide)]
  refine bndE (x := 49) (by decide +kernel) ?_
  refine grdE (by unfold okO; decide +kernel) ?_
  refine grdE (by unfold vp_in; decide +kernel) ?_
  refine bvE (XD dL322) (by rw [show (6 + (3 : Int32)).toNatClampNeg = 9 from by decide]; exact XD_wI) ?_
  refine bndE (x := 49) (by decide +kernel) ?_
  refine grdE (by unfold okO; decide +kernel) ?_
  refine grdE (by unfold vp_in; decide +kernel) ?_
  refine bvE (XD dL323) (by rw [show (12 + (3 : Int32)).toNatClampNeg = 15 from by decide]; exact XD_wI) ?_
  refine bvE (4) (by decide) ?_
  exact rfl
theorem stB_4 : stB 47 (XD dL323, 4) = some (.inl (XD dL325, 5)) := by
  unfold stB
  rw [if_neg (by decide)]
  refine bndE (x := 49) (by decide +kernel) ?_
  refine grdE (by unfold okO; decide +kernel) ?_
  refine grdE (by unfold vp_in; decide +kernel) ?_
  refine bvE (XD dL324) (by rw [show (6 + (4 : Int32)).toNatClampNeg = 10 from by decide]; exact XD_wI) ?_
  refine bndE (x := 49) (by decide +kernel) ?_
  refine grdE (by unfold okO; decide +kernel) ?_
  refine grdE (by unfold vp_in; decide +kernel) ?_
  refine bvE (XD dL325) (by rw [show (12 + (4 : Int32)).toNatClampNeg = 16 from by decide]; exact XD_wI) ?_
  refine bvE (5) (by decide) ?_
  exact rfl
theorem stB_5 : stB 47 (XD dL325, 5) = some (.inl (XD dL327, 6)) := by
  unfold stB
  rw [if_neg (by decide)]
  refine bndE (x := 49) (by decide +kernel) ?_
  refine grdE (by unfold okO; decide +kernel) ?_
  refine grdE (by unfold vp_in; decide +kernel) ?_
  refine bvE (XD dL326) (by rw [show (6 + (5 : Int32)).toNatClampNeg = 11 from by decide]; exact XD_wI) ?_
  refine bndE (x := 49) (by decide +kernel) ?_
  refine grdE (by unfold okO; decide +kernel) ?_
  refine grdE (by unfold vp_in; decide +kernel) ?_
  refine bvE (XD dL327) (by rw [show (12 + (5 : Int32)).toNatClampNeg = 17 from by decide]; exact XD_wI) ?_
  refine bvE (6) (by decide) ?_
  exact rfl
theorem stB_6 : stB 47 (XD dL327, 6) = some (.inr (XD dL327)) := by
  unfold stB
  rw [if_pos (by decide)]
theorem stL : loopO (σ := Mem × Int32) (ρ := Mem) (stB 47) (XD dL315, 0) = some (XD dL327) := by
  rw [loopO_eq, stB_0]
  show loopO (stB 47) (XD dL317, 1) = _
  rw [loopO_eq, stB_1]
  show loopO (stB 47) (XD dL319, 2) = _
  rw [loopO_eq, stB_2]
  show loopO (stB 47) (XD dL321, 3) = _
  rw [loopO_eq, stB_3]
  show loopO (stB 47) (XD dL323, 4) = _
  rw [loopO_eq, stB_4]
  show loopO (stB 47) (XD dL325, 5) = _
  rw [loopO_eq, stB_5]
  show loopO (stB 47) (XD dL327, 6) = _
  rw [loopO_eq, stB_6]
set_option maxHeartbeats 4000000 in
set_option maxRecDepth 100000 in
theorem si_13 : f_X12_init (XD dL121) 47 = some (XD dL328) := by
  unfold f_X12_init
  refine bvE (XD dL122) (by rw [ck7]; exact XD_nA) ?_
  refine grdE (by unfold okO; decide +kernel) ?_
  refine bvE (XD dL123) (by rw [zd121]; exact XD_wR) ?_
  refine bvE (XD dL124) (by rw [ck5666]; exact XD_nA) ?_
  refine bvE (XD dL125) (by rw [zd123]; exact XD_wR) ?_
  refine bvE (XD dL126) (by rw [ck11332]; exact XD_nA) ?_
  refine bvE (XD dL127) (by rw [zd125]; exact XD_wR) ?_
  refine bvE (XD dL128) (by rw [ck2]; exact XD_nA) ?_
  refine bvE (XD dL129) (by rw [zd127]; exact XD_wR) ?_
  refine bvE (XD dL130) (by rw [ck7]; exact XD_nA) ?_
  refine bvE (XD dL131) (by rw [zd129]; exact XD_wR) ?_
  refine bvE (XD dL132) (by rw [ck46]; exact XD_nA) ?_
  refine bvE (XD dL133) (by rw [zd131]; exact XD_wR) ?_
  refine bvE (XD dL134) (by rw [ck46]; exact XD_nA) ?_
  refine bvE (XD dL135) (by rw [zd133]; exact XD_wR) ?_
  refine bvE (XD dL136) (by rw [ck130]; exact XD_nA) ?_
  refine grdE (by unfold vp_in; decide +kernel) ?_
  refine bvE (XD dL137) (by rw [zd135, ck0]; exact XD_wI) ?_
  refine grdE (by unfold vp_in; decide +kernel) ?_
  refine bvE (XD dL138) (by rw [zd135, ck1]; exact XD_wI) ?_
  refine grdE (by unfold vp_in; decide +kernel) ?_
  refine bvE (XD dL139) (by rw [zd135, ck2]; exact XD_wI) ?_
  refine grdE (by unfold vp_in; decide +kernel) ?_
  refine bvE (XD dL140) (by rw [zd135, ck3]; exact XD_wI) ?_
  refine grdE (by unfold vp_in; decide +kernel) ?_
  refine bvE (XD dL141) (by rw [zd135, ck4]; exact XD_wI) ?_
  refine grdE (by unfold vp_in; decide +kernel) ?_
  refine bvE (XD dL142) (by rw [zd135, ck5]; exact XD_wI) ?_
  refine grdE (by unfold vp_in; decide +kernel) ?_
  refine bvE (XD dL143) (by rw [zd135, ck6]; exact XD_wI) ?_
  refine grdE (by unfold vp_in; decide +kernel) ?_
  refine bvE (XD dL144) (by rw [zd135, ck7]; exact XD_wI) ?_
  refine grdE (by unfold vp_in; decide +kernel) ?_
  refine bvE (XD dL145) (by rw [zd135, ck8]; exact XD_wI) ?_
  refine grdE (by unfold vp_in; decide +kernel) ?_
  refine bvE (XD dL146) (by rw [zd135, ck9]; exact XD_wI) ?_
  refine grdE (by unfold vp_in; decide +kernel) ?_
  refine bvE (XD dL147) (by rw [zd135, ck10]; exact XD_wI) ?_
  refine grdE (by unfold vp_in; decide +kernel) ?_
  refine bvE (XD dL148) (by rw [zd135, ck11]; exact XD_wI) ?_
  refine grdE (by unfold vp_in; decide +kernel) ?_
  refine bvE (XD dL149) (by rw [zd135, ck12]; exact XD_wI) ?_
  refine grdE (by unfold vp_in; decide +kernel) ?_
  refine bvE (XD dL150) (by rw [zd135, ck13]; exact XD_wI) ?_
  refine grdE (by unfold vp_in; decide +kernel) ?_
  refine bvE (XD dL151) (by rw [zd135, ck14]; exact XD_wI) ?_
  refine grdE (by unfold vp_in; decide +kernel) ?_
  refine bvE (XD dL152) (by rw [zd135, ck15]; exact XD_wI) ?_
  refine grdE (by unfold vp_in; decide +kernel) ?_
  refine bvE (XD dL153) (by rw [zd135, ck16]; exact XD_wI) ?_
  refine grdE (by unfold vp_in; decide +kernel) ?_
  refine bvE (XD dL154) (by rw [zd135, ck17]; exact XD_wI) ?_
  refine grdE (by unfold vp_in; decide +kernel) ?_
  refine bvE (XD dL155) (by rw [zd135, ck18]; exact XD_wI) ?_
  refine grdE (by unfold vp_in; decide +kernel) ?_
  refine bvE (XD dL156) (by rw [zd135, ck19]; exact XD_wI) ?_
  refine grdE (by unfold vp_in; decide +kernel) ?_
  refine bvE (XD dL157) (by rw [zd135, ck20]; exact XD_wI) ?_
  refine grdE (by unfold vp_in; decide +kernel) ?_
  refine bvE (XD dL158) (by rw [zd135, ck21]; exact XD_wI) ?_
  refine grdE (by unfold vp_in; decide +kernel) ?_
  refine bvE (XD dL159) (by rw [zd135, ck22]; exact XD_wI) ?_
  refine grdE (by unfold vp_in; decide +kernel) ?_
  refine bvE (XD dL160) (by rw [zd135, ck23]; exact XD_wI) ?_
  refine grdE (by unfold vp_in; decide +kernel) ?_
  refine bvE (XD dL161) (by rw [zd135, ck24]; exact XD_wI) ?_
  refine grdE (by unfold vp_in; decide +kernel) ?_
  refine bvE (XD dL162) (by rw [zd135, ck25]; exact XD_wI) ?_
  refine grdE (by unfold vp_in; decide +kernel) ?_
  refine bvE (XD dL163) (by rw [zd135, ck26]; exact XD_wI) ?_
  refine grdE (by unfold vp_in; decide +kernel) ?_
  refine bvE (XD dL164) (by rw [zd135, ck27]; exact XD_wI) ?_
  refine grdE (by unfold vp_in; decide +kernel) ?_
  refine bvE (XD dL165) (by rw [zd135, ck28]; exact XD_wI) ?_
  refine grdE (by unfold vp_in; decide +kernel) ?_
  refine bvE (XD dL166) (by rw [zd135, ck29]; exact XD_wI) ?_
  refine grdE (by unfold vp_in; decide +kernel) ?_
  refine bvE (XD dL167) (by rw [zd135, ck30]; exact XD_wI) ?_
  refine grdE (by unfold vp_in; decide +kernel) ?_
  refine bvE (XD dL168) (by rw [zd135, ck31]; exact XD_wI) ?_
  refine grdE (by unfold vp_in; decide +kernel) ?_
  refine bvE (XD dL169) (by rw [zd135, ck32]; exact XD_wI) ?_
  refine grdE (by unfold vp_in; decide +kernel) ?_
  refine bvE (XD dL170) (by rw [zd135, ck33]; exact XD_wI) ?_
  refine grdE (by unfold vp_in; decide +kernel) ?_
  refine bvE (XD dL171) (by rw [zd135, ck34]; exact XD_wI) ?_
  refine grdE (by unfold vp_in; decide +kernel) ?_
  refine bvE (XD dL172) (by rw [zd135, ck35]; exact XD_wI) ?_
  refine grdE (by unfold vp_in; decide +kernel) ?_
  refine bvE (XD dL173) (by rw [zd135, ck36]; exact XD_wI) ?_
  refine grdE (by unfold vp_in; decide +kernel) ?_
  refine bvE (XD dL174) (by rw [zd135, ck37]; exact XD_wI) ?_
  refine grdE (by unfold vp_in; decide +kernel) ?_
  refine bvE (XD dL175) (by rw [zd135, ck38]; exact XD_wI) ?_
  refine grdE (by unfold vp_in; decide +kernel) ?_
  refine bvE (XD dL176) (by rw [zd135, ck39]; exact XD_wI) ?_
  refine grdE (by unfold vp_in; decide +kernel) ?_
  refine bvE (XD dL177) (by rw [zd135, ck40]; exact XD_wI) ?_
  refine grdE (by unfold vp_in; decide +kernel) ?_
  refine bvE (XD dL178) (by rw [zd135, ck41]; exact XD_wI) ?_
  refine grdE (by unfold vp_in; decide +kernel) ?_
  refine bvE (XD dL179) (by rw [zd135, ck42]; exact XD_wI) ?_
  refine grdE (by unfold vp_in; decide +kernel) ?_
  refine bvE (XD dL180) (by rw [zd135, ck43]; exact XD_wI) ?_
  refine grdE (by unfold vp_in; decide +kernel) ?_
  refine bvE (XD dL181) (by rw [zd135, ck44]; exact XD_wI) ?_
  refine grdE (by unfold vp_in; decide +kernel) ?_
  refine bvE (XD dL182) (by rw [zd135, ck45]; exact XD_wI) ?_
  refine grdE (by unfold vp_in; decide +kernel) ?_
  refine bvE (XD dL183) (by rw [zd135, ck46]; exact XD_wI) ?_
  refine grdE (by unfold vp_in; decide +kernel) ?_
  refine bvE (XD dL184) (by rw [zd135, ck47]; exact XD_wI) ?_
  refine grdE (by unfold vp_in; decide +kernel) ?_
  refine bvE (XD dL185) (by rw [zd135, ck48]; exact XD_wI) ?_
  refine grdE (by unfold vp_in; decide +kernel) ?_
  refine bvE (XD dL186) (by rw [zd135, ck49]; exact XD_wI) ?_
  refine grdE (by unfold vp_in; decide +kernel) ?_
  refine bvE (XD dL187) (by rw [zd135, ck50]; exact XD_wI) ?_
  refine grdE (by unfold vp_in; decide +kernel) ?_
  refine bvE (XD dL188) (by rw [zd135, ck51]; exact XD_wI) ?_
  refine grdE (by unfold vp_in; decide +kernel) ?_
  refine bvE (XD dL189) (by rw [zd135, ck52]; exact XD_wI) ?_
  refine grdE (by unfold vp_in; decide +kernel) ?_
  refine bvE (XD dL190) (by rw [zd135, ck53]; exact XD_wI) ?_
  refine grdE (by unfold vp_in; decide +kernel) ?_
  refine bvE (XD dL191) (by rw [zd135, ck54]; exact XD_wI) ?_
  refine grdE (by unfold vp_in; decide +kernel) ?_
  refine bvE (XD dL192) (by rw [zd135, ck55]; exact XD_wI) ?_
  refine grdE (by unfold vp_in; decide +kernel) ?_
  refine bvE (XD dL193) (by rw [zd135, ck56]; exact XD_wI) ?_
  refine grdE (by unfold vp_in; decide +kernel) ?_
  refine bvE (XD dL194) (by rw [zd135, ck57]; exact XD_wI) ?_
  refine grdE (by unfold vp_in; decide +kernel) ?_
  refine bvE (XD dL195) (by rw [zd135, ck58]; exact XD_wI) ?_
  refine grdE (by unfold vp_in; decide +kernel) ?_
  refine bvE (XD dL196) (by rw [zd135, ck59]; exact XD_wI) ?_
  refine grdE (by unfold vp_in; decide +kernel) ?_
  refine bvE (XD dL197) (by rw [zd135, ck60]; exact XD_wI) ?_
  refine grdE (by unfold vp_in; decide +kernel) ?_
  refine bvE (XD dL198) (by rw [zd135, ck61]; exact XD_wI) ?_
  refine grdE (by unfold vp_in; decide +kernel) ?_
  refine bvE (XD dL199) (by rw [zd135, ck62]; exact XD_wI) ?_
  refine grdE (by unfold vp_in; decide +kernel) ?_
  refine bvE (XD dL200) (by rw [zd135, ck63]; exact XD_wI) ?_
  refine grdE (by unfold vp_in; decide +kernel) ?_
  refine bvE (XD dL201) (by rw [zd135, ck64]; exact XD_wI) ?_
  refine grdE (by unfold vp_in; decide +kernel) ?_
  refine bvE (XD dL202) (by rw [zd135, ck65]; exact XD_wI) ?_
  refine grdE (by unfold vp_in; decide +kernel) ?_
  refine bvE (XD dL203) (by rw [zd135, ck66]; exact XD_wI) ?_
  refine grdE (by unfold vp_in; decide +kernel) ?_
  refine bvE (XD dL204) (by rw [zd135, ck67]; exact XD_wI) ?_
  refine grdE (by unfold vp_in; decide +kernel) ?_
  refine bvE (XD dL205) (by rw [zd135, ck68]; exact XD_wI) ?_
  refine grdE (by unfold vp_in; decide +kernel) ?_
  refine bvE (XD dL206) (by rw [zd135, ck69]; exact XD_wI) ?_
  refine grdE (by unfold vp_in; decide +kernel) ?_
  refine bvE (XD dL207) (by rw [zd135, ck70]; exact XD_wI) ?_
  refine grdE (by unfold vp_in; decide +kernel) ?_
  refine bvE (XD dL208) (by rw [zd135, ck71]; exact XD_wI) ?_
  refine grdE (by unfold vp_in; decide +kernel) ?_
  refine bvE (XD dL209) (by rw [zd135, ck72]; exact XD_wI) ?_
  refine grdE (by unfold vp_in; decide +kernel) ?_
  refine bvE (XD dL210) (by rw [zd135, ck73]; exact XD_wI) ?_
  refine grdE (by unfold vp_in; decide +kernel) ?_
  refine bvE (XD dL211) (by rw [zd135, ck74]; exact XD_wI) ?_
  refine grdE (by unfold vp_in; decide +kernel) ?_
  refine bvE (XD dL212) (by rw [zd135, ck75]; exact XD_wI) ?_
  refine grdE (by unfold vp_in; decide +kernel) ?_
  refine bvE (XD dL213) (by rw [zd135, ck76]; exact XD_wI) ?_
  refine grdE (by unfold vp_in; decide +kernel) ?_
  refine bvE (XD dL214) (by rw [zd135, ck77]; exact XD_wI) ?_
  refine grdE (by unfold vp_in; decide +kernel) ?_
  refine bvE (XD dL215) (by rw [zd135, ck78]; exact XD_wI) ?_
  refine grdE (by unfold vp_in; decide +kernel) ?_
  refine bvE (XD dL216) (by rw [zd135, ck79]; exact XD_wI) ?_
  refine grdE (by unfold vp_in; decide +kernel) ?_
  refine bvE (XD dL217) (by rw [zd135, ck80]; exact XD_wI) ?_
  refine grdE (by unfold vp_in; decide +kernel) ?_
  refine bvE (XD dL218) (by rw [zd135, ck81]; exact XD_wI) ?_
  refine grdE (by unfold vp_in; decide +kernel) ?_
  refine bvE (XD dL219) (by rw [zd135, ck82]; exact XD_wI) ?_
  refine grdE (by unfold vp_in; decide +kernel) ?_
  refine bvE (XD dL220) (by rw [zd135, ck83]; exact XD_wI) ?_
  refine grdE (by unfold vp_in; decide +kernel) ?_
  refine bvE (XD dL221) (by rw [zd135, ck84]; exact XD_wI) ?_
  refine grdE (by unfold vp_in; decide +kernel) ?_
  refine bvE (XD dL222) (by rw [zd135, ck85]; exact XD_wI) ?_
  refine grdE (by unfold vp_in; decide +kernel) ?_
  refine bvE (XD dL223) (by rw [zd135, ck86]; exact XD_wI) ?_
  refine grdE (by unfold vp_in; decide +kernel) ?_
  refine bvE (XD dL224) (by rw [zd135, ck87]; exact XD_wI) ?_
  refine grdE (by unfold vp_in; decide +kernel) ?_
  refine bvE (XD dL225) (by rw [zd135, ck88]; exact XD_wI) ?_
  refine grdE (by unfold vp_in; decide +kernel) ?_
  refine bvE (XD dL226) (by rw [zd135, ck89]; exact XD_wI) ?_
  refine grdE (by unfold vp_in; decide +kernel) ?_
  refine bvE (XD dL227) (by rw [zd135, ck90]; exact XD_wI) ?_
  refine grdE (by unfold vp_in; decide +kernel) ?_
  refine bvE (XD dL228) (by rw [zd135, ck91]; exact XD_wI) ?_
  refine grdE (by unfold vp_in; decide +kernel) ?_
  refine bvE (XD dL229) (by rw [zd135, ck92]; exact XD_wI) ?_
  refine grdE (by unfold vp_in; decide +kernel) ?_
  refine bvE (XD dL230) (by rw [zd135, ck93]; exact XD_wI) ?_
  refine grdE (by unfold vp_in; decide +kernel) ?_
  refine bvE (XD dL231) (by rw [zd135, ck94]; exact XD_wI) ?_
  refine grdE (by unfold vp_in; decide +kernel) ?_
  refine bvE (XD dL232) (by rw [zd135, ck95]; exact XD_wI) ?_
  refine grdE (by unfold vp_in; decide +kernel) ?_
  refine bvE (XD dL233) (by rw [zd135, ck96]; exact XD_wI) ?_
  refine grdE (by unfold vp_in; decide +kernel) ?_
  refine bvE (XD dL234) (by rw [zd135, ck97]; exact XD_wI) ?_
  refine grdE (by unfold vp_in; decide +kernel) ?_
  refine bvE (XD dL235) (by rw [zd135, ck98]; exact XD_wI) ?_
  refine grdE (by unfold vp_in; decide +kernel) ?_
  refine bvE (XD dL236) (by rw [zd135, ck99]; exact XD_wI) ?_
  refine grdE (by unfold vp_in; decide +kernel) ?_
  refine bvE (XD dL237) (by rw [zd135, ck100]; exact XD_wI) ?_
  refine grdE (by unfold vp_in; decide +kernel) ?_
  refine bvE (XD dL238) (by rw [zd135, ck101]; exact XD_wI) ?_
  refine grdE (by unfold vp_in; decide +kernel) ?_
  refine bvE (XD dL239) (by rw [zd135, ck102]; exact XD_wI) ?_
  refine grdE (by unfold vp_in; decide +kernel) ?_
  refine bvE (XD dL240) (by rw [zd135, ck103]; exact XD_wI) ?_
  refine grdE (by unfold vp_in; decide +kernel) ?_
  refine bvE (XD dL241) (by rw [zd135, ck104]; exact XD_wI) ?_
  refine grdE (by unfold vp_in; decide +kernel) ?_
  refine bvE (XD dL242) (by rw [zd135, ck105]; exact XD_wI) ?_
  refine grdE (by unfold vp_in; decide +kernel) ?_
  refine bvE (XD dL243) (by rw [zd135, ck106]; exact XD_wI) ?_
  refine grdE (by unfold vp_in; decide +kernel) ?_
  refine bvE (XD dL244) (by rw [zd135, ck107]; exact XD_wI) ?_
  refine grdE (by unfold vp_in; decide +kernel) ?_
  refine bvE (XD dL245) (by rw [zd135, ck108]; exact XD_wI) ?_
  refine grdE (by unfold vp_in; decide +kernel) ?_
  refine bvE (XD dL246) (by rw [zd135, ck109]; exact XD_wI) ?_
  refine grdE (by unfold vp_in; decide +kernel) ?_
  refine bvE (XD dL247) (by rw [zd135, ck110]; exact XD_wI) ?_
  refine grdE (by unfold vp_in; decide +kernel) ?_
  refine bvE (XD dL248) (by rw [zd135, ck111]; exact XD_wI) ?_
  refine grdE (by unfold vp_in; decide +kernel) ?_
  refine bvE (XD dL249) (by rw [zd135, ck112]; exact XD_wI) ?_
  refine grdE (by unfold vp_in; decide +kernel) ?_
  refine bvE (XD dL250) (by rw [zd135, ck113]; exact XD_wI) ?_
  refine grdE (by unfold vp_in; decide +kernel) ?_
  refine bvE (XD dL251) (by rw [zd135, ck114]; exact XD_wI) ?_
  refine grdE (by unfold vp_in; decide +kernel) ?_
  refine bvE (XD dL252) (by rw [zd135, ck115]; exact XD_wI) ?_
  refine grdE (by unfold vp_in; decide +kernel) ?_
  refine bvE (XD dL253) (by rw [zd135, ck116]; exact XD_wI) ?_
  refine grdE (by unfold vp_in; decide +kernel) ?_
  refine bvE (XD dL254) (by rw [zd135, ck117]; exact XD_wI) ?_
  refine grdE (by unfold vp_in; decide +kernel) ?_
  refine bvE (XD dL255) (by rw [zd135, ck118]; exact XD_wI) ?_
  refine grdE (by unfold vp_in; decide +kernel) ?_
  refine bvE (XD dL256) (by rw [zd135, ck119]; exact XD_wI) ?_
  refine grdE (by unfold vp_in; decide +kernel) ?_
  refine bvE (XD dL257) (by rw [zd135, ck120]; exact XD_wI) ?_
  refine grdE (by unfold vp_in; decide +kernel) ?_
  refine bvE (XD dL258) (by rw [zd135, ck121]; exact XD_wI) ?_
  refine grdE (by unfold vp_in; decide +kernel) ?_
  refine bvE (XD dL259) (by rw [zd135, ck122]; exact XD_wI) ?_
  refine grdE (by unfold vp_in; decide +kernel) ?_
  refine bvE (XD dL260) (by rw [zd135, ck123]; exact XD_wI) ?_
  refine grdE (by unfold vp_in; decide +kernel) ?_
  refine bvE (XD dL261) (by rw [zd135, ck124]; exact XD_wI) ?_
  refine grdE (by unfold vp_in; decide +kernel) ?_
  refine bvE (XD dL262) (by rw [zd135, ck125]; exact XD_wI) ?_
  refine grdE (by unfold vp_in; decide +kernel) ?_
  refine bvE (XD dL263) (by rw [zd135, ck126]; exact XD_wI) ?_
  refine grdE (by unfold vp_in; decide +kernel) ?_
  refine bvE (XD dL264) (by rw [zd135, ck127]; exact XD_wI) ?_
  refine grdE (by unfold vp_in; decide +kernel) ?_
  refine bvE (XD dL265) (by rw [zd135, ck128]; exact XD_wI) ?_
  refine grdE (by unfold vp_in; decide +kernel) ?_
  refine bvE (XD dL266) (by rw [zd135, ck129]; exact XD_wI) ?_
  refine bvE (XD dL267) (by rw [zd135]; exact XD_wR) ?_
  refine bvE (XD dL268) (by rw [ck400]; exact XD_nA) ?_
  refine bvE (XD dL269) (by rw [zd267]; exact XD_wR) ?_
  refine bvE (XD dL270) (by rw [ck5]; exact XD_nA) ?_
  refine bvE (XD dL271) (by rw [zd269]; exact XD_wR) ?_
  refine bvE (XD dL272) (XD_wI) ?_
  refine bvE (XD dL273) (by rw [ck401]; exact XD_nA) ?_
  refine bvE (XD dL274) (by rw [zd272]; exact XD_wR) ?_
  refine bvE (XD dL275) (by rw [ck401]; exact XD_nA) ?_
  refine bvE (XD dL276) (by rw [zd274]; exact XD_wR) ?_
  refine bvE (XD dL277) (by rw [ck401]; exact XD_nA) ?_
  refine bvE (XD dL278) (by rw [zd276]; exact XD_wR) ?_
  refine bvE (XD dL279) (by rw [ck8]; exact XD_nA) ?_
  refine bvE (XD dL280) (by rw [zd278]; exact XD_wR) ?_
  refine bvE (XD dL281) (by rw [ck4]; exact XD_nA) ?_
  refine bvE (XD dL282) (by rw [zd280]; exact XD_wR) ?_
  refine bvE (XD dL283) (by rw [ck429226]; exact XD_nA) ?_
  refine bvE (XD dL284) (by rw [zd282]; exact XD_wR) ?_
  refine bvE (XD dL285) (by rw [ck9331]; exact XD_nA) ?_
  refine bvE (XD dL286) (by rw [zd284]; exact XD_wR) ?_
  refine bvE (XD dL287) (XD_wI) ?_
  refine bvE (XD dL288) (by rw [ck9331]; exact XD_nA) ?_
  refine bvE (XD dL289) (by rw [zd287]; exact XD_wR) ?_
  refine bvE (XD dL290) (by rw [ck9331]; exact XD_nA) ?_
  refine bvE (XD dL291) (by rw [zd289]; exact XD_wR) ?_
  refine bvE (XD dL292) (by rw [ck9331]; exact XD_nA) ?_
  refine bvE (XD dL293) (by rw [zd291]; exact XD_wR) ?_
  refine bvE (XD dL294) (by rw [ck46]; exact XD_nA) ?_
  refine bvE (XD dL295) (by rw [zd293]; exact XD_wR) ?_
  refine bvE (XD dL296) (by rw [ck9331]; exact XD_nA) ?_
  refine bvE (XD dL297) (by rw [zd295]; exact XD_wR) ?_
  refine bvE (XD dL298) (by rw [ck6]; exact XD_nA) ?_
  refine bvE (XD dL299) (by rw [zd297]; exact XD_wR) ?_
  refine bvE (XD dL300) (by rw [ck36]; exact XD_nA) ?_
  refine bvE (XD dL301) (by rw [zd299]; exact XD_wR) ?_
  refine bvE (XD dL302) (by rw [ck6]; exact XD_nA) ?_
  refine bvE (XD dL303) (by rw [zd301]; exact XD_wR) ?_
  refine bvE (XD dL304) (by rw [ck6]; exact XD_nA) ?_
  refine bvE (XD dL305) (by rw [zd303]; exact XD_wR) ?_
  refine bvE (XD dL306) (by rw [ck9331]; exact XD_nA) ?_
  refine bvE (XD dL307) (by rw [zd305]; exact XD_wR) ?_
  refine bvE (XD dL308) (by rw [ck9331]; exact XD_nA) ?_
  refine bvE (XD dL309) (by rw [zd307]; exact XD_wR) ?_
  refine bvE (XD dL310) (XD_wI) ?_
  refine bvE (XD dL311) (by rw [ck3]; exact XD_nA) ?_
  refine bvE (XD dL312) (by rw [zd310]; exact XD_wR) ?_
  refine bvE (XD dL313) (by rw [ck61]; exact XD_nA) ?_
  refine bvE (XD dL314) (by rw [zd312]; exact XD_wR) ?_
  refine bvE (XD dL315) (XD_wI) ?_
  refine bndE (x := XD dL327) stL ?_
  refine bndE (x := 49) (by decide +kernel) ?_
  refine grdE (by unfold okO; decide +kernel) ?_
  refine grdE (by unfold vp_in; decide +kernel) ?_
  refine bvE (XD dL328) (by rw [show (58 : Int32).toNatClampNeg = 58 from by decide]; exact XD_wI) ?_
  exact rfl
