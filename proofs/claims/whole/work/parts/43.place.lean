/-! the places of what can be taken back -/
theorem e_P_placeAt_0 {X : zX} {h : zH} : zcf X m_P_placeAt [.ref 21, .int 0] h = (some (some (.ref 23), h)) := by
  refine (zcf_run (Nat.le_of_ble_eq_true rfl)).trans ?_
  show zrn X 0 m_P_placeAt 0 [some (.ref 21), some (.int 0)] [] h = _
  refine (rn_ld d_P_placeAt_0 rfl rfl rfl rfl).trans ?_
  refine ((rn_if_lt d_P_placeAt_1 (t := 22) (by decide)).trans (if_neg (by decide))).trans ?_
  refine (rn_ld d_P_placeAt_4 rfl rfl rfl rfl).trans ?_
  refine (rn_ld d_P_placeAt_5 rfl rfl rfl rfl).trans ?_
  refine (rn_gr d_P_placeAt_6 f_1_11 zc_21 zr_21_0).trans ?_
  refine (rn_len d_P_placeAt_9 zc_22 (by decide)).trans ?_
  refine ((rn_ic_ge d_P_placeAt_10 (t := 22) (by decide)).trans (if_neg (by decide))).trans ?_
  refine (rn_ld d_P_placeAt_13 rfl rfl rfl rfl).trans ?_
  refine (rn_gr d_P_placeAt_14 f_1_11 zc_21 zr_21_0).trans ?_
  refine (rn_ld d_P_placeAt_17 rfl rfl rfl rfl).trans ?_
  refine (rn_aalc (q := 22) d_P_placeAt_18 zc_22 (by decide) (by decide +kernel)).trans ?_
  refine (rn_goto d_P_placeAt_19 (t := 23) (by decide)).trans ?_
  exact rn_rr d_P_placeAt_23 rfl
theorem e_P_placeAt_1 {X : zX} {h : zH} : zcf X m_P_placeAt [.ref 21, .int 1] h = (some (some (.ref 29), h)) := by
  refine (zcf_run (Nat.le_of_ble_eq_true rfl)).trans ?_
  show zrn X 0 m_P_placeAt 0 [some (.ref 21), some (.int 1)] [] h = _
  refine (rn_ld d_P_placeAt_0 rfl rfl rfl rfl).trans ?_
  refine ((rn_if_lt d_P_placeAt_1 (t := 22) (by decide)).trans (if_neg (by decide))).trans ?_
  refine (rn_ld d_P_placeAt_4 rfl rfl rfl rfl).trans ?_
  refine (rn_ld d_P_placeAt_5 rfl rfl rfl rfl).trans ?_
  refine (rn_gr d_P_placeAt_6 f_1_11 zc_21 zr_21_0).trans ?_
  refine (rn_len d_P_placeAt_9 zc_22 (by decide)).trans ?_
  refine ((rn_ic_ge d_P_placeAt_10 (t := 22) (by decide)).trans (if_neg (by decide))).trans ?_
  refine (rn_ld d_P_placeAt_13 rfl rfl rfl rfl).trans ?_
  refine (rn_gr d_P_placeAt_14 f_1_11 zc_21 zr_21_0).trans ?_
  refine (rn_ld d_P_placeAt_17 rfl rfl rfl rfl).trans ?_
  refine (rn_aalc (q := 28) d_P_placeAt_18 zc_22 (by decide) (by decide +kernel)).trans ?_
  refine (rn_goto d_P_placeAt_19 (t := 23) (by decide)).trans ?_
  exact rn_rr d_P_placeAt_23 rfl
theorem e_P_placeAt_2 {X : zX} {h : zH} : zcf X m_P_placeAt [.ref 21, .int 2] h = (some (some (.ref 35), h)) := by
  refine (zcf_run (Nat.le_of_ble_eq_true rfl)).trans ?_
  show zrn X 0 m_P_placeAt 0 [some (.ref 21), some (.int 2)] [] h = _
  refine (rn_ld d_P_placeAt_0 rfl rfl rfl rfl).trans ?_
  refine ((rn_if_lt d_P_placeAt_1 (t := 22) (by decide)).trans (if_neg (by decide))).trans ?_
  refine (rn_ld d_P_placeAt_4 rfl rfl rfl rfl).trans ?_
  refine (rn_ld d_P_placeAt_5 rfl rfl rfl rfl).trans ?_
  refine (rn_gr d_P_placeAt_6 f_1_11 zc_21 zr_21_0).trans ?_
  refine (rn_len d_P_placeAt_9 zc_22 (by decide)).trans ?_
  refine ((rn_ic_ge d_P_placeAt_10 (t := 22) (by decide)).trans (if_neg (by decide))).trans ?_
  refine (rn_ld d_P_placeAt_13 rfl rfl rfl rfl).trans ?_
  refine (rn_gr d_P_placeAt_14 f_1_11 zc_21 zr_21_0).trans ?_
  refine (rn_ld d_P_placeAt_17 rfl rfl rfl rfl).trans ?_
  refine (rn_aalc (q := 34) d_P_placeAt_18 zc_22 (by decide) (by decide +kernel)).trans ?_
  refine (rn_goto d_P_placeAt_19 (t := 23) (by decide)).trans ?_
  exact rn_rr d_P_placeAt_23 rfl
theorem e_P_placeAt_3 {X : zX} {h : zH} : zcf X m_P_placeAt [.ref 21, .int 3] h = (some (some (.ref 41), h)) := by
  refine (zcf_run (Nat.le_of_ble_eq_true rfl)).trans ?_
  show zrn X 0 m_P_placeAt 0 [some (.ref 21), some (.int 3)] [] h = _
  refine (rn_ld d_P_placeAt_0 rfl rfl rfl rfl).trans ?_
  refine ((rn_if_lt d_P_placeAt_1 (t := 22) (by decide)).trans (if_neg (by decide))).trans ?_
  refine (rn_ld d_P_placeAt_4 rfl rfl rfl rfl).trans ?_
  refine (rn_ld d_P_placeAt_5 rfl rfl rfl rfl).trans ?_
  refine (rn_gr d_P_placeAt_6 f_1_11 zc_21 zr_21_0).trans ?_
  refine (rn_len d_P_placeAt_9 zc_22 (by decide)).trans ?_
  refine ((rn_ic_ge d_P_placeAt_10 (t := 22) (by decide)).trans (if_neg (by decide))).trans ?_
  refine (rn_ld d_P_placeAt_13 rfl rfl rfl rfl).trans ?_
  refine (rn_gr d_P_placeAt_14 f_1_11 zc_21 zr_21_0).trans ?_
  refine (rn_ld d_P_placeAt_17 rfl rfl rfl rfl).trans ?_
  refine (rn_aalc (q := 40) d_P_placeAt_18 zc_22 (by decide) (by decide +kernel)).trans ?_
  refine (rn_goto d_P_placeAt_19 (t := 23) (by decide)).trans ?_
  exact rn_rr d_P_placeAt_23 rfl
theorem e_P_placeAt_4 {X : zX} {h : zH} : zcf X m_P_placeAt [.ref 21, .int 4] h = (some (some (.ref 47), h)) := by
  refine (zcf_run (Nat.le_of_ble_eq_true rfl)).trans ?_
  show zrn X 0 m_P_placeAt 0 [some (.ref 21), some (.int 4)] [] h = _
  refine (rn_ld d_P_placeAt_0 rfl rfl rfl rfl).trans ?_
  refine ((rn_if_lt d_P_placeAt_1 (t := 22) (by decide)).trans (if_neg (by decide))).trans ?_
  refine (rn_ld d_P_placeAt_4 rfl rfl rfl rfl).trans ?_
  refine (rn_ld d_P_placeAt_5 rfl rfl rfl rfl).trans ?_
  refine (rn_gr d_P_placeAt_6 f_1_11 zc_21 zr_21_0).trans ?_
  refine (rn_len d_P_placeAt_9 zc_22 (by decide)).trans ?_
  refine ((rn_ic_ge d_P_placeAt_10 (t := 22) (by decide)).trans (if_neg (by decide))).trans ?_
  refine (rn_ld d_P_placeAt_13 rfl rfl rfl rfl).trans ?_
  refine (rn_gr d_P_placeAt_14 f_1_11 zc_21 zr_21_0).trans ?_
  refine (rn_ld d_P_placeAt_17 rfl rfl rfl rfl).trans ?_
  refine (rn_aalc (q := 46) d_P_placeAt_18 zc_22 (by decide) (by decide +kernel)).trans ?_
  refine (rn_goto d_P_placeAt_19 (t := 23) (by decide)).trans ?_
  exact rn_rr d_P_placeAt_23 rfl
theorem e_P_placeAt_5 {X : zX} {h : zH} : zcf X m_P_placeAt [.ref 21, .int 5] h = (some (some (.ref 53), h)) := by
  refine (zcf_run (Nat.le_of_ble_eq_true rfl)).trans ?_
  show zrn X 0 m_P_placeAt 0 [some (.ref 21), some (.int 5)] [] h = _
  refine (rn_ld d_P_placeAt_0 rfl rfl rfl rfl).trans ?_
  refine ((rn_if_lt d_P_placeAt_1 (t := 22) (by decide)).trans (if_neg (by decide))).trans ?_
  refine (rn_ld d_P_placeAt_4 rfl rfl rfl rfl).trans ?_
  refine (rn_ld d_P_placeAt_5 rfl rfl rfl rfl).trans ?_
  refine (rn_gr d_P_placeAt_6 f_1_11 zc_21 zr_21_0).trans ?_
  refine (rn_len d_P_placeAt_9 zc_22 (by decide)).trans ?_
  refine ((rn_ic_ge d_P_placeAt_10 (t := 22) (by decide)).trans (if_neg (by decide))).trans ?_
  refine (rn_ld d_P_placeAt_13 rfl rfl rfl rfl).trans ?_
  refine (rn_gr d_P_placeAt_14 f_1_11 zc_21 zr_21_0).trans ?_
  refine (rn_ld d_P_placeAt_17 rfl rfl rfl rfl).trans ?_
  refine (rn_aalc (q := 52) d_P_placeAt_18 zc_22 (by decide) (by decide +kernel)).trans ?_
  refine (rn_goto d_P_placeAt_19 (t := 23) (by decide)).trans ?_
  exact rn_rr d_P_placeAt_23 rfl
theorem e_P_placeAt_6 {X : zX} {h : zH} : zcf X m_P_placeAt [.ref 21, .int 6] h = (some (some (.ref 59), h)) := by
  refine (zcf_run (Nat.le_of_ble_eq_true rfl)).trans ?_
  show zrn X 0 m_P_placeAt 0 [some (.ref 21), some (.int 6)] [] h = _
  refine (rn_ld d_P_placeAt_0 rfl rfl rfl rfl).trans ?_
  refine ((rn_if_lt d_P_placeAt_1 (t := 22) (by decide)).trans (if_neg (by decide))).trans ?_
  refine (rn_ld d_P_placeAt_4 rfl rfl rfl rfl).trans ?_
  refine (rn_ld d_P_placeAt_5 rfl rfl rfl rfl).trans ?_
  refine (rn_gr d_P_placeAt_6 f_1_11 zc_21 zr_21_0).trans ?_
  refine (rn_len d_P_placeAt_9 zc_22 (by decide)).trans ?_
  refine ((rn_ic_ge d_P_placeAt_10 (t := 22) (by decide)).trans (if_neg (by decide))).trans ?_
  refine (rn_ld d_P_placeAt_13 rfl rfl rfl rfl).trans ?_
  refine (rn_gr d_P_placeAt_14 f_1_11 zc_21 zr_21_0).trans ?_
  refine (rn_ld d_P_placeAt_17 rfl rfl rfl rfl).trans ?_
  refine (rn_aalc (q := 58) d_P_placeAt_18 zc_22 (by decide) (by decide +kernel)).trans ?_
  refine (rn_goto d_P_placeAt_19 (t := 23) (by decide)).trans ?_
  exact rn_rr d_P_placeAt_23 rfl
theorem e_P_placeAt_7 {X : zX} {h : zH} : zcf X m_P_placeAt [.ref 21, .int 7] h = (some (some (.ref 65), h)) := by
  refine (zcf_run (Nat.le_of_ble_eq_true rfl)).trans ?_
  show zrn X 0 m_P_placeAt 0 [some (.ref 21), some (.int 7)] [] h = _
  refine (rn_ld d_P_placeAt_0 rfl rfl rfl rfl).trans ?_
  refine ((rn_if_lt d_P_placeAt_1 (t := 22) (by decide)).trans (if_neg (by decide))).trans ?_
  refine (rn_ld d_P_placeAt_4 rfl rfl rfl rfl).trans ?_
  refine (rn_ld d_P_placeAt_5 rfl rfl rfl rfl).trans ?_
  refine (rn_gr d_P_placeAt_6 f_1_11 zc_21 zr_21_0).trans ?_
  refine (rn_len d_P_placeAt_9 zc_22 (by decide)).trans ?_
  refine ((rn_ic_ge d_P_placeAt_10 (t := 22) (by decide)).trans (if_neg (by decide))).trans ?_
  refine (rn_ld d_P_placeAt_13 rfl rfl rfl rfl).trans ?_
  refine (rn_gr d_P_placeAt_14 f_1_11 zc_21 zr_21_0).trans ?_
  refine (rn_ld d_P_placeAt_17 rfl rfl rfl rfl).trans ?_
  refine (rn_aalc (q := 64) d_P_placeAt_18 zc_22 (by decide) (by decide +kernel)).trans ?_
  refine (rn_goto d_P_placeAt_19 (t := 23) (by decide)).trans ?_
  exact rn_rr d_P_placeAt_23 rfl
theorem e_P_placeAt {X : zX} {h : zH} {x : Nat} (hx : x < 8) : zcf X m_P_placeAt [.ref 21, .int (nI x)] h = some (some (.ref (23 + 6 * x)), h) := by
  have : x = 0 ∨ x = 1 ∨ x = 2 ∨ x = 3 ∨ x = 4 ∨ x = 5 ∨ x = 6 ∨ x = 7 := by omega
  rcases this with rfl | rfl | rfl | rfl | rfl | rfl | rfl | rfl
  · exact e_P_placeAt_0
  · exact e_P_placeAt_1
  · exact e_P_placeAt_2
  · exact e_P_placeAt_3
  · exact e_P_placeAt_4
  · exact e_P_placeAt_5
  · exact e_P_placeAt_6
  · exact e_P_placeAt_7
theorem hH_p {x : Nat} (hx : x < 8) : isH (23 + 6 * x) := by
  have : x = 0 ∨ x = 1 ∨ x = 2 ∨ x = 3 ∨ x = 4 ∨ x = 5 ∨ x = 6 ∨ x = 7 := by omega
  rcases this with rfl | rfl | rfl | rfl | rfl | rfl | rfl | rfl
  · exact hH_23
  · exact hH_29
  · exact hH_35
  · exact hH_41
  · exact hH_47
  · exact hH_53
  · exact hH_59
  · exact hH_65
