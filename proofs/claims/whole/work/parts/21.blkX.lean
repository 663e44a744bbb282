theorem e_X_feed {X : zX} {x1 : Int32} {h : zH} : zcf X m_X_feed [.ref 1, .int x1] h = (if 0 ≤ x1 then (if 255 < x1 then (zbI (zcf X m_X_refuse [.ref 1, .int (-6)] h) fun v2 h1 => (some (some (.int v2), h1))) else (if (h.1 71 1) < 96 then (zbI (zcf X m_T_append [.ref 71, .int x1] h) fun v4 h3 => (some (some (.int v4), h3))) else (zbI (zcf X m_X_refuse [.ref 1, .int (-6)] h) fun v6 h5 => (some (some (.int v6), h5))))) else (zbI (zcf X m_X_refuse [.ref 1, .int (-4)] h) fun v8 h7 => (some (some (.int v8), h7)))) := by
  refine (zcf_run (Nat.le_of_ble_eq_true rfl)).trans ?_
  show zrn X 2 m_X_feed 0 [some (.ref 1), some (.int x1)] [] h = _
  refine (rn_ld d_X_feed_0 rfl rfl rfl rfl).trans ?_
  refine (rn_if_ge d_X_feed_1 (t := 11) (by decide)).trans (zif ?_ ?_)
  · refine (rn_ld d_X_feed_11 rfl rfl rfl rfl).trans ?_
    refine (rn_push d_X_feed_12 zcs_sipush_255).trans ?_
    refine (rn_ic_gt d_X_feed_15 (t := 30) (by decide)).trans (zif ?_ ?_)
    · refine (rn_ld d_X_feed_30 rfl rfl rfl rfl).trans ?_
      refine (rn_push d_X_feed_31 zcs_bipush_m6).trans ?_
      refine (rn_vI d_X_feed_33 (zinv_v l_3_55 (by decide) (Nat.le_of_ble_eq_true rfl) rfl rfl zc_1 (Nat.le_of_ble_eq_true rfl)) (Nat.le_of_ble_eq_true rfl) (Or.inl rfl)).trans (zbI_congr fun v2 h1 => ?_)
      exact rn_ri d_X_feed_36 rfl
    · refine (rn_ld d_X_feed_18 rfl rfl rfl rfl).trans ?_
      refine (rn_gr d_X_feed_19 f_3_40 zc_1 zr_1_6).trans ?_
      refine (rn_gi d_X_feed_22 f_3_59 zc_71).trans ?_
      refine (rn_push d_X_feed_25 zcs_bipush_96).trans ?_
      refine (rn_ic_lt d_X_feed_27 (t := 37) (by decide)).trans (zif ?_ ?_)
      · refine (rn_ld d_X_feed_37 rfl rfl rfl rfl).trans ?_
        refine (rn_gr d_X_feed_38 f_3_40 zc_1 zr_1_6).trans ?_
        refine (rn_ld d_X_feed_41 rfl rfl rfl rfl).trans ?_
        refine (rn_vI d_X_feed_42 (zinv_v l_3_62 (by decide) (Nat.le_of_ble_eq_true rfl) rfl rfl zc_71 (Nat.le_of_ble_eq_true rfl)) (Nat.le_of_ble_eq_true rfl) (Or.inl rfl)).trans (zbI_congr fun v4 h3 => ?_)
        exact rn_ri d_X_feed_45 rfl
      · refine (rn_ld d_X_feed_30 rfl rfl rfl rfl).trans ?_
        refine (rn_push d_X_feed_31 zcs_bipush_m6).trans ?_
        refine (rn_vI d_X_feed_33 (zinv_v l_3_55 (by decide) (Nat.le_of_ble_eq_true rfl) rfl rfl zc_1 (Nat.le_of_ble_eq_true rfl)) (Nat.le_of_ble_eq_true rfl) (Or.inl rfl)).trans (zbI_congr fun v6 h5 => ?_)
        exact rn_ri d_X_feed_36 rfl
  · refine (rn_ld d_X_feed_4 rfl rfl rfl rfl).trans ?_
    refine (rn_push d_X_feed_5 zcs_bipush_m4).trans ?_
    refine (rn_vI d_X_feed_7 (zinv_v l_3_55 (by decide) (Nat.le_of_ble_eq_true rfl) rfl rfl zc_1 (Nat.le_of_ble_eq_true rfl)) (Nat.le_of_ble_eq_true rfl) (Or.inl rfl)).trans (zbI_congr fun v8 h7 => ?_)
    exact rn_ri d_X_feed_10 rfl
theorem e_X_refuse {X : zX} {x1 : Int32} {h : zH} : zcf X m_X_refuse [.ref 1, .int x1] h = (zbI (zcf X m_X_at [.ref 74, .int (-x1)] h) fun v2 h1 => (zbV (zcf X m_X_put [.ref 74, .int (-x1), .int (v2 + 1)] h1) fun h3 => (some (some (.int x1), h3)))) := by
  refine (zcf_run (Nat.le_of_ble_eq_true rfl)).trans ?_
  show zrn X 1 m_X_refuse 0 [some (.ref 1), some (.int x1)] [] h = _
  refine (rn_ld d_X_refuse_0 rfl rfl rfl rfl).trans ?_
  refine (rn_gr d_X_refuse_1 f_3_52 zc_1 zr_1_9).trans ?_
  refine (rn_ld d_X_refuse_4 rfl rfl rfl rfl).trans ?_
  refine (rn_neg d_X_refuse_5).trans ?_
  refine (rn_ld d_X_refuse_6 rfl rfl rfl rfl).trans ?_
  refine (rn_gr d_X_refuse_7 f_3_52 zc_1 zr_1_9).trans ?_
  refine (rn_ld d_X_refuse_10 rfl rfl rfl rfl).trans ?_
  refine (rn_neg d_X_refuse_11).trans ?_
  refine (rn_sI d_X_refuse_12 nb_3_252 (zinv_s l_3_252 (by decide) (Nat.le_of_ble_eq_true rfl) rfl rfl (Nat.le_of_ble_eq_true rfl)) (Nat.le_of_ble_eq_true rfl) (Or.inl rfl)).trans (zbI_congr fun v2 h1 => ?_)
  refine (rn_push d_X_refuse_15 zcs_iconst_1).trans ?_
  refine (rn_a2 d_X_refuse_16 rfl).trans ?_
  refine (rn_sV d_X_refuse_17 nb_3_248 (zinv_s l_3_248 (by decide) (Nat.le_of_ble_eq_true rfl) rfl rfl (Nat.le_of_ble_eq_true rfl)) (Nat.le_of_ble_eq_true rfl) rfl).trans (zbV_congr fun h3 => ?_)
  refine (rn_ld d_X_refuse_20 rfl rfl rfl rfl).trans ?_
  exact rn_ri d_X_refuse_21 rfl
theorem e_X_at {X : zX} {b0 n0 : Nat} {x1 : Int32} {h : zH} (A0 : zcl 140 (b0 + 1) = (0, n0)) : zcf X m_X_at [.ref (b0 + 1), .int x1] h = (if x1 < 0 then (some (some (.int 0), h)) else (if (Int32.ofNat n0) ≤ x1 then (some (some (.int 0), h)) else (if zin x1 n0 = true then (some (some (.int (h.1 (b0 + 1) (Int32.toNatClampNeg x1))), h)) else none))) := by
  refine (zcf_run (Nat.le_of_ble_eq_true rfl)).trans ?_
  show zrn X 0 m_X_at 0 [some (.ref (b0 + 1)), some (.int x1)] [] h = _
  refine (rn_ld d_X_at_0 rfl rfl rfl rfl).trans ?_
  refine (rn_nu d_X_at_1).trans ?_
  refine (rn_ld d_X_at_4 rfl rfl rfl rfl).trans ?_
  refine (rn_if_lt d_X_at_5 (t := 20) (by decide)).trans (zif ?_ ?_)
  · refine (rn_push d_X_at_20 zcs_iconst_0).trans ?_
    exact rn_ri d_X_at_21 rfl
  · refine (rn_ld d_X_at_8 rfl rfl rfl rfl).trans ?_
    refine (rn_ld d_X_at_9 rfl rfl rfl rfl).trans ?_
    refine (rn_len d_X_at_10 A0 (by decide)).trans ?_
    refine (rn_ic_ge d_X_at_11 (t := 20) (by decide)).trans (zif ?_ ?_)
    · refine (rn_push d_X_at_20 zcs_iconst_0).trans ?_
      exact rn_ri d_X_at_21 rfl
    · refine (rn_ld d_X_at_14 rfl rfl rfl rfl).trans ?_
      refine (rn_ld d_X_at_15 rfl rfl rfl rfl).trans ?_
      refine (rn_ial d_X_at_16 (Nat.succ_pos _) A0).trans (zif ?_ rfl)
      refine (rn_goto d_X_at_17 (t := 21) (by decide)).trans ?_
      exact rn_ri d_X_at_21 rfl
theorem e_X_put {X : zX} {b0 n0 : Nat} {x1 : Int32} {x2 : Int32} {h : zH} (A0 : zcl 140 (b0 + 1) = (0, n0)) : zcf X m_X_put [.ref (b0 + 1), .int x1, .int x2] h = (if x1 < 0 then (some (none, h)) else (if (Int32.ofNat n0) ≤ x1 then (some (none, h)) else (if zin x1 n0 = true then (some (none, ((zup h.1 (b0 + 1) (Int32.toNatClampNeg x1) x2), h.2))) else none))) := by
  refine (zcf_run (Nat.le_of_ble_eq_true rfl)).trans ?_
  show zrn X 0 m_X_put 0 [some (.ref (b0 + 1)), some (.int x1), some (.int x2)] [] h = _
  refine (rn_ld d_X_put_0 rfl rfl rfl rfl).trans ?_
  refine (rn_nu d_X_put_1).trans ?_
  refine (rn_ld d_X_put_4 rfl rfl rfl rfl).trans ?_
  refine (rn_if_lt d_X_put_5 (t := 18) (by decide)).trans (zif ?_ ?_)
  · exact rn_rv d_X_put_18 rfl
  · refine (rn_ld d_X_put_8 rfl rfl rfl rfl).trans ?_
    refine (rn_ld d_X_put_9 rfl rfl rfl rfl).trans ?_
    refine (rn_len d_X_put_10 A0 (by decide)).trans ?_
    refine (rn_ic_ge d_X_put_11 (t := 18) (by decide)).trans (zif ?_ ?_)
    · exact rn_rv d_X_put_18 rfl
    · refine (rn_ld d_X_put_14 rfl rfl rfl rfl).trans ?_
      refine (rn_ld d_X_put_15 rfl rfl rfl rfl).trans ?_
      refine (rn_ld d_X_put_16 rfl rfl rfl rfl).trans ?_
      refine (rn_ias d_X_put_17 A0).trans (zif ?_ rfl)
      exact rn_rv d_X_put_18 rfl
theorem b_X_hill_37 {X : zX} {x1 : Int32} {x2 : Int32} {x3 : Int32} {h : zH} : zrn X 7 m_X_hill 37 [some (.ref 1), some (.int x1), some (.int x2), some (.int x3)] [] h = (if (h.1 71 1) ≤ x3 then (zbV (zcf X m_T_forget [.ref 71] h) fun h1 => (if x2 ≤ 0 then (some (some (.int x2), h1)) else (zbV (zcf X m_H_become [.ref 2, .ref 8] h1) fun h2 => (zbV (zcf X m_P_forget [.ref 21] h2) fun h3 => (some (some (.int x2), h3)))))) else (if x2 < 0 then (zbV (zcf X m_T_forget [.ref 71] h) fun h4 => (if x2 ≤ 0 then (some (some (.int x2), h4)) else (zbV (zcf X m_H_become [.ref 2, .ref 8] h4) fun h5 => (zbV (zcf X m_P_forget [.ref 21] h5) fun h6 => (some (some (.int x2), h6)))))) else (zbI (zcf X m_T_beginsStatement [.ref 71, .int x3] h) fun v8 h7 => (if v8 = 0 then zrn X 7 m_X_hill 37 [some (.ref 1), some (.int x1), some (.int x2), some (.int (x3 + 1))] [] h7 else (zbI (zcf X m_T_comesTo [.ref 71, .ref 8, .int x3] h7) fun v10 h9 => zrn X 7 m_X_hill 37 [some (.ref 1), some (.int x1), some (.int (if v10 = 0 then ((-2000) - x3) else (x2 + 1))), some (.int (x3 + 1))] [] h9))))) := by
  refine (rn_ld d_X_hill_37 rfl rfl rfl rfl).trans ?_
  refine (rn_ld d_X_hill_38 rfl rfl rfl rfl).trans ?_
  refine (rn_gr d_X_hill_39 f_3_40 zc_1 zr_1_6).trans ?_
  refine (rn_gi d_X_hill_42 f_3_59 zc_71).trans ?_
  refine (rn_ic_ge d_X_hill_45 (t := 96) (by decide)).trans (zif ?_ ?_)
  · refine (rn_ld d_X_hill_96 rfl rfl rfl rfl).trans ?_
    refine (rn_gr d_X_hill_97 f_3_40 zc_1 zr_1_6).trans ?_
    refine (rn_vV d_X_hill_100 (zinv_v l_3_81 (by decide) (Nat.le_of_ble_eq_true rfl) rfl rfl zc_71 (Nat.le_of_ble_eq_true rfl)) (Nat.le_of_ble_eq_true rfl) rfl).trans (zbV_congr fun h1 => ?_)
    refine (rn_ld d_X_hill_103 rfl rfl rfl rfl).trans ?_
    refine (rn_if_le d_X_hill_104 (t := 125) (by decide)).trans (zif ?_ ?_)
    · refine (rn_ld d_X_hill_125 rfl rfl rfl rfl).trans ?_
      exact rn_ri d_X_hill_126 rfl
    · refine (rn_ld d_X_hill_107 rfl rfl rfl rfl).trans ?_
      refine (rn_gr d_X_hill_108 f_3_10 zc_1 zr_1_0).trans ?_
      refine (rn_ld d_X_hill_111 rfl rfl rfl rfl).trans ?_
      refine (rn_gr d_X_hill_112 f_3_16 zc_1 zr_1_1).trans ?_
      refine (rn_vV d_X_hill_115 (zinv_v l_3_69 (by decide) (Nat.le_of_ble_eq_true rfl) rfl rfl zc_2 (Nat.le_of_ble_eq_true rfl)) (Nat.le_of_ble_eq_true rfl) rfl).trans (zbV_congr fun h2 => ?_)
      refine (rn_ld d_X_hill_118 rfl rfl rfl rfl).trans ?_
      refine (rn_gr d_X_hill_119 f_3_33 zc_1 zr_1_5).trans ?_
      refine (rn_vV d_X_hill_122 (zinv_v l_3_84 (by decide) (Nat.le_of_ble_eq_true rfl) rfl rfl zc_21 (Nat.le_of_ble_eq_true rfl)) (Nat.le_of_ble_eq_true rfl) rfl).trans (zbV_congr fun h3 => ?_)
      refine (rn_ld d_X_hill_125 rfl rfl rfl rfl).trans ?_
      exact rn_ri d_X_hill_126 rfl
  · refine (rn_ld d_X_hill_48 rfl rfl rfl rfl).trans ?_
    refine (rn_if_lt d_X_hill_49 (t := 96) (by decide)).trans (zif ?_ ?_)
    · refine (rn_ld d_X_hill_96 rfl rfl rfl rfl).trans ?_
      refine (rn_gr d_X_hill_97 f_3_40 zc_1 zr_1_6).trans ?_
      refine (rn_vV d_X_hill_100 (zinv_v l_3_81 (by decide) (Nat.le_of_ble_eq_true rfl) rfl rfl zc_71 (Nat.le_of_ble_eq_true rfl)) (Nat.le_of_ble_eq_true rfl) rfl).trans (zbV_congr fun h4 => ?_)
      refine (rn_ld d_X_hill_103 rfl rfl rfl rfl).trans ?_
      refine (rn_if_le d_X_hill_104 (t := 125) (by decide)).trans (zif ?_ ?_)
      · refine (rn_ld d_X_hill_125 rfl rfl rfl rfl).trans ?_
        exact rn_ri d_X_hill_126 rfl
      · refine (rn_ld d_X_hill_107 rfl rfl rfl rfl).trans ?_
        refine (rn_gr d_X_hill_108 f_3_10 zc_1 zr_1_0).trans ?_
        refine (rn_ld d_X_hill_111 rfl rfl rfl rfl).trans ?_
        refine (rn_gr d_X_hill_112 f_3_16 zc_1 zr_1_1).trans ?_
        refine (rn_vV d_X_hill_115 (zinv_v l_3_69 (by decide) (Nat.le_of_ble_eq_true rfl) rfl rfl zc_2 (Nat.le_of_ble_eq_true rfl)) (Nat.le_of_ble_eq_true rfl) rfl).trans (zbV_congr fun h5 => ?_)
        refine (rn_ld d_X_hill_118 rfl rfl rfl rfl).trans ?_
        refine (rn_gr d_X_hill_119 f_3_33 zc_1 zr_1_5).trans ?_
        refine (rn_vV d_X_hill_122 (zinv_v l_3_84 (by decide) (Nat.le_of_ble_eq_true rfl) rfl rfl zc_21 (Nat.le_of_ble_eq_true rfl)) (Nat.le_of_ble_eq_true rfl) rfl).trans (zbV_congr fun h6 => ?_)
        refine (rn_ld d_X_hill_125 rfl rfl rfl rfl).trans ?_
        exact rn_ri d_X_hill_126 rfl
    · refine (rn_ld d_X_hill_52 rfl rfl rfl rfl).trans ?_
      refine (rn_gr d_X_hill_53 f_3_40 zc_1 zr_1_6).trans ?_
      refine (rn_ld d_X_hill_56 rfl rfl rfl rfl).trans ?_
      refine (rn_vI d_X_hill_57 (zinv_v l_3_73 (by decide) (Nat.le_of_ble_eq_true rfl) rfl rfl zc_71 (Nat.le_of_ble_eq_true rfl)) (Nat.le_of_ble_eq_true rfl) (Or.inr rfl)).trans (zbI_congr fun v8 h7 => ?_)
      refine (rn_if_eq d_X_hill_60 (t := 90) (by decide)).trans (zif ?_ ?_)
      · refine (rn_inc d_X_hill_90 rfl (c := 1) (by decide) (ls' := [some (.ref 1), some (.int x1), some (.int x2), some (.int (x3 + 1))]) rfl).trans ?_
        refine (rn_goto d_X_hill_93 (t := 37) (by decide)).trans ?_
        rfl
      · refine (rn_ld d_X_hill_63 rfl rfl rfl rfl).trans ?_
        refine (rn_gr d_X_hill_64 f_3_40 zc_1 zr_1_6).trans ?_
        refine (rn_ld d_X_hill_67 rfl rfl rfl rfl).trans ?_
        refine (rn_gr d_X_hill_68 f_3_16 zc_1 zr_1_1).trans ?_
        refine (rn_ld d_X_hill_71 rfl rfl rfl rfl).trans ?_
        refine (rn_vI d_X_hill_72 (zinv_v l_3_77 (by decide) (Nat.le_of_ble_eq_true rfl) rfl rfl zc_71 (Nat.le_of_ble_eq_true rfl)) (Nat.le_of_ble_eq_true rfl) (Or.inr rfl)).trans (zbI_congr fun v10 h9 => ?_)
        refine Eq.trans (b := zrn X 7 m_X_hill 89 [some (.ref 1), some (.int x1), some (.int x2), some (.int x3)] [.int (if v10 = 0 then ((-2000) - x3) else (x2 + 1))] h9) ?_ ?_
        · refine (rn_if_eq d_X_hill_75 (t := 84) (by decide)).trans ?_
          by_cases q11 : v10 = 0
          · simp only [if_pos q11]
            refine (rn_push d_X_hill_84 zcs_sipush_m2000).trans ?_
            refine (rn_ld d_X_hill_87 rfl rfl rfl rfl).trans ?_
            refine (rn_a2 d_X_hill_88 rfl).trans ?_
            all_goals rfl
          · simp only [if_neg q11]
            refine (rn_ld d_X_hill_78 rfl rfl rfl rfl).trans ?_
            refine (rn_push d_X_hill_79 zcs_iconst_1).trans ?_
            refine (rn_a2 d_X_hill_80 rfl).trans ?_
            refine (rn_goto d_X_hill_81 (t := 89) (by decide)).trans ?_
            all_goals rfl
        refine (rn_st d_X_hill_89 rfl rfl rfl (by decide) rfl (Nat.le_of_ble_eq_true rfl) (ls' := [some (.ref 1), some (.int x1), some (.int (if v10 = 0 then ((-2000) - x3) else (x2 + 1))), some (.int x3)]) rfl).trans ?_
        refine (rn_inc d_X_hill_90 rfl (c := 1) (by decide) (ls' := [some (.ref 1), some (.int x1), some (.int (if v10 = 0 then ((-2000) - x3) else (x2 + 1))), some (.int (x3 + 1))]) rfl).trans ?_
        refine (rn_goto d_X_hill_93 (t := 37) (by decide)).trans ?_
        rfl
theorem e_X_hill {X : zX} {h : zH} : zcf X m_X_hill [.ref 1] h = (zbI (zcf X m_T_wrongPlace [.ref 71] h) fun v2 h1 => (zbV (zcf X m_H_become [.ref 8, .ref 2] h1) fun h4 => zrn X 7 m_X_hill 37 [some (.ref 1), some (.int v2), some (.int (if v2 = (-9) then (0 : Int32) else ((-1000) - v2))), some (.int 0)] [] h4)) := by
  refine (zcf_run (Nat.le_of_ble_eq_true rfl)).trans ?_
  show zrn X 7 m_X_hill 0 [some (.ref 1), none, none, none] [] h = _
  refine (rn_ld d_X_hill_0 rfl rfl rfl rfl).trans ?_
  refine (rn_gr d_X_hill_1 f_3_40 zc_1 zr_1_6).trans ?_
  refine (rn_vI d_X_hill_4 (zinv_v l_3_65 (by decide) (Nat.le_of_ble_eq_true rfl) rfl rfl zc_71 (Nat.le_of_ble_eq_true rfl)) (Nat.le_of_ble_eq_true rfl) (Or.inl rfl)).trans (zbI_congr fun v2 h1 => ?_)
  refine (rn_st d_X_hill_7 rfl rfl rfl (by decide) rfl (Nat.le_of_ble_eq_true rfl) (ls' := [some (.ref 1), some (.int v2), none, none]) rfl).trans ?_
  refine (rn_ld d_X_hill_8 rfl rfl rfl rfl).trans ?_
  refine (rn_push d_X_hill_9 zcs_bipush_m9).trans ?_
  refine Eq.trans (b := zrn X 7 m_X_hill 23 [some (.ref 1), some (.int v2), none, none] [.int (if v2 = (-9) then (0 : Int32) else ((-1000) - v2))] h1) ?_ ?_
  · refine (rn_ic_ne d_X_hill_11 (t := 18) (by decide)).trans ?_
    by_cases q3 : v2 = (-9)
    · simp only [if_pos q3]
      refine (rn_push d_X_hill_14 zcs_iconst_0).trans ?_
      refine (rn_goto d_X_hill_15 (t := 23) (by decide)).trans ?_
      all_goals rfl
    · simp only [if_neg q3]
      refine (rn_push d_X_hill_18 zcs_sipush_m1000).trans ?_
      refine (rn_ld d_X_hill_21 rfl rfl rfl rfl).trans ?_
      refine (rn_a2 d_X_hill_22 rfl).trans ?_
      all_goals rfl
  refine (rn_st d_X_hill_23 rfl rfl rfl (by decide) rfl (Nat.le_of_ble_eq_true rfl) (ls' := [some (.ref 1), some (.int v2), some (.int (if v2 = (-9) then (0 : Int32) else ((-1000) - v2))), none]) rfl).trans ?_
  refine (rn_ld d_X_hill_24 rfl rfl rfl rfl).trans ?_
  refine (rn_gr d_X_hill_25 f_3_16 zc_1 zr_1_1).trans ?_
  refine (rn_ld d_X_hill_28 rfl rfl rfl rfl).trans ?_
  refine (rn_gr d_X_hill_29 f_3_10 zc_1 zr_1_0).trans ?_
  refine (rn_vV d_X_hill_32 (zinv_v l_3_69 (by decide) (Nat.le_of_ble_eq_true rfl) rfl rfl zc_8 (Nat.le_of_ble_eq_true rfl)) (Nat.le_of_ble_eq_true rfl) rfl).trans (zbV_congr fun h4 => ?_)
  refine (rn_push d_X_hill_35 zcs_iconst_0).trans ?_
  refine (rn_st d_X_hill_36 rfl rfl rfl (by decide) rfl (Nat.le_of_ble_eq_true rfl) (ls' := [some (.ref 1), some (.int v2), some (.int (if v2 = (-9) then (0 : Int32) else ((-1000) - v2))), some (.int 0)]) rfl).trans ?_
  rfl
theorem e_X_isKind {X : zX} {x0 : Int32} {h : zH} : zcf X m_X_isKind [.int x0] h = (if x0 < 0 then (some (some (.int 0), h)) else (if 6 ≤ x0 then (some (some (.int 0), h)) else (some (some (.int 1), h)))) := by
  refine (zcf_run (Nat.le_of_ble_eq_true rfl)).trans ?_
  show zrn X 0 m_X_isKind 0 [some (.int x0)] [] h = _
  refine (rn_ld d_X_isKind_0 rfl rfl rfl rfl).trans ?_
  refine (rn_if_lt d_X_isKind_1 (t := 14) (by decide)).trans (zif ?_ ?_)
  · refine (rn_push d_X_isKind_14 zcs_iconst_0).trans ?_
    exact rn_rz d_X_isKind_15 rfl (by decide)
  · refine (rn_ld d_X_isKind_4 rfl rfl rfl rfl).trans ?_
    refine (rn_push d_X_isKind_5 zcs_bipush_6).trans ?_
    refine (rn_ic_ge d_X_isKind_7 (t := 14) (by decide)).trans (zif ?_ ?_)
    · refine (rn_push d_X_isKind_14 zcs_iconst_0).trans ?_
      exact rn_rz d_X_isKind_15 rfl (by decide)
    · refine (rn_push d_X_isKind_10 zcs_iconst_1).trans ?_
      refine (rn_goto d_X_isKind_11 (t := 15) (by decide)).trans ?_
      exact rn_rz d_X_isKind_15 rfl (by decide)
theorem e_X_isCell {X : zX} {x0 : Int32} {h : zH} : zcf X m_X_isCell [.int x0] h = (if x0 < 0 then (some (some (.int 0), h)) else (if 36 ≤ x0 then (some (some (.int 0), h)) else (some (some (.int 1), h)))) := by
  refine (zcf_run (Nat.le_of_ble_eq_true rfl)).trans ?_
  show zrn X 0 m_X_isCell 0 [some (.int x0)] [] h = _
  refine (rn_ld d_X_isCell_0 rfl rfl rfl rfl).trans ?_
  refine (rn_if_lt d_X_isCell_1 (t := 14) (by decide)).trans (zif ?_ ?_)
  · refine (rn_push d_X_isCell_14 zcs_iconst_0).trans ?_
    exact rn_rz d_X_isCell_15 rfl (by decide)
  · refine (rn_ld d_X_isCell_4 rfl rfl rfl rfl).trans ?_
    refine (rn_push d_X_isCell_5 zcs_bipush_36).trans ?_
    refine (rn_ic_ge d_X_isCell_7 (t := 14) (by decide)).trans (zif ?_ ?_)
    · refine (rn_push d_X_isCell_14 zcs_iconst_0).trans ?_
      exact rn_rz d_X_isCell_15 rfl (by decide)
    · refine (rn_push d_X_isCell_10 zcs_iconst_1).trans ?_
      refine (rn_goto d_X_isCell_11 (t := 15) (by decide)).trans ?_
      exact rn_rz d_X_isCell_15 rfl (by decide)
theorem e_X_isWay {X : zX} {x0 : Int32} {h : zH} : zcf X m_X_isWay [.int x0] h = (if x0 < 0 then (some (some (.int 0), h)) else (if 4 ≤ x0 then (some (some (.int 0), h)) else (some (some (.int 1), h)))) := by
  refine (zcf_run (Nat.le_of_ble_eq_true rfl)).trans ?_
  show zrn X 0 m_X_isWay 0 [some (.int x0)] [] h = _
  refine (rn_ld d_X_isWay_0 rfl rfl rfl rfl).trans ?_
  refine (rn_if_lt d_X_isWay_1 (t := 13) (by decide)).trans (zif ?_ ?_)
  · refine (rn_push d_X_isWay_13 zcs_iconst_0).trans ?_
    exact rn_rz d_X_isWay_14 rfl (by decide)
  · refine (rn_ld d_X_isWay_4 rfl rfl rfl rfl).trans ?_
    refine (rn_push d_X_isWay_5 zcs_iconst_4).trans ?_
    refine (rn_ic_ge d_X_isWay_6 (t := 13) (by decide)).trans (zif ?_ ?_)
    · refine (rn_push d_X_isWay_13 zcs_iconst_0).trans ?_
      exact rn_rz d_X_isWay_14 rfl (by decide)
    · refine (rn_push d_X_isWay_9 zcs_iconst_1).trans ?_
      refine (rn_goto d_X_isWay_10 (t := 14) (by decide)).trans ?_
      exact rn_rz d_X_isWay_14 rfl (by decide)
theorem e_X_turned {X : zX} {x0 : Int32} {x1 : Int32} {h : zH} : zcf X m_X_turned [.int x0, .int x1] h = (some (some (.int (zrem (x0 + x1) 4)), h)) := by
  refine (zcf_run (Nat.le_of_ble_eq_true rfl)).trans ?_
  show zrn X 0 m_X_turned 0 [some (.int x0), some (.int x1)] [] h = _
  refine (rn_ld d_X_turned_0 rfl rfl rfl rfl).trans ?_
  refine (rn_ld d_X_turned_1 rfl rfl rfl rfl).trans ?_
  refine (rn_a2 d_X_turned_2 rfl).trans ?_
  refine (rn_push d_X_turned_3 zcs_iconst_4).trans ?_
  refine (rn_a2 d_X_turned_4 (zar_rem (by decide))).trans ?_
  exact rn_ri d_X_turned_5 rfl
theorem e_X_depth {X : zX} {x0 : Int32} {x1 : Int32} {h : zH} : zcf X m_X_depth [.int x0, .int x1] h = (if x0 = 2 then (some (some (.int ((2 + (x1 / 4)) + 1)), h)) else (if x0 = 3 then (some (some (.int (2 + (x1 / 4))), h)) else (if x0 = 4 then (some (some (.int (2 * ((2 + (x1 / 4)) + 1))), h)) else (if x0 = 5 then (some (some (.int 1), h)) else (some (some (.int (2 + (x1 / 4))), h)))))) := by
  refine (zcf_run (Nat.le_of_ble_eq_true rfl)).trans ?_
  show zrn X 0 m_X_depth 0 [some (.int x0), some (.int x1), none, none] [] h = _
  refine (rn_push d_X_depth_0 zcs_iconst_2).trans ?_
  refine (rn_ld d_X_depth_1 rfl rfl rfl rfl).trans ?_
  refine (rn_push d_X_depth_2 zcs_iconst_4).trans ?_
  refine (rn_a2 d_X_depth_3 (zar_div (by decide))).trans ?_
  refine (rn_a2 d_X_depth_4 rfl).trans ?_
  refine (rn_st d_X_depth_5 rfl rfl rfl (by decide) rfl (Nat.le_of_ble_eq_true rfl) (ls' := [some (.int x0), some (.int x1), some (.int (2 + (x1 / 4))), none]) rfl).trans ?_
  refine (rn_ld d_X_depth_6 rfl rfl rfl rfl).trans ?_
  refine (rn_push d_X_depth_7 zcs_iconst_1).trans ?_
  refine (rn_a2 d_X_depth_8 rfl).trans ?_
  refine (rn_st d_X_depth_9 rfl rfl rfl (by decide) rfl (Nat.le_of_ble_eq_true rfl) (ls' := [some (.int x0), some (.int x1), some (.int (2 + (x1 / 4))), some (.int ((2 + (x1 / 4)) + 1))]) rfl).trans ?_
  refine (rn_ld d_X_depth_10 rfl rfl rfl rfl).trans ?_
  refine zite (fun q1 => ?_) (fun q1 => ?_)
  · refine (rn_tsw d_X_depth_11 (t := 40) (by rw [q1]; decide +kernel)).trans ?_
    refine (rn_ld d_X_depth_40 rfl rfl rfl rfl).trans ?_
    exact rn_ri d_X_depth_41 rfl
  · refine zite (fun q2 => ?_) (fun q2 => ?_)
    · refine (rn_tsw d_X_depth_11 (t := 48) (by rw [q2]; decide +kernel)).trans ?_
      refine (rn_ld d_X_depth_48 rfl rfl rfl rfl).trans ?_
      exact rn_ri d_X_depth_49 rfl
    · refine zite (fun q3 => ?_) (fun q3 => ?_)
      · refine (rn_tsw d_X_depth_11 (t := 42) (by rw [q3]; decide +kernel)).trans ?_
        refine (rn_push d_X_depth_42 zcs_iconst_2).trans ?_
        refine (rn_ld d_X_depth_43 rfl rfl rfl rfl).trans ?_
        refine (rn_a2 d_X_depth_44 rfl).trans ?_
        exact rn_ri d_X_depth_45 rfl
      · refine zite (fun q4 => ?_) (fun q4 => ?_)
        · refine (rn_tsw d_X_depth_11 (t := 46) (by rw [q4]; decide +kernel)).trans ?_
          refine (rn_push d_X_depth_46 zcs_iconst_1).trans ?_
          exact rn_ri d_X_depth_47 rfl
        · refine (rn_tsw d_X_depth_11 (t := 48) (zsw_out (by have z2 := lv_neT q1 (a := 2) rfl; have z3 := lv_neT q2 (a := 3) rfl; have z4 := lv_neT q3 (a := 4) rfl; have z5 := lv_neT q4 (a := 5) rfl; omega) (by decide))).trans ?_
          refine (rn_ld d_X_depth_48 rfl rfl rfl rfl).trans ?_
          exact rn_ri d_X_depth_49 rfl
theorem e_X_cellBeside {X : zX} {x0 : Int32} {x1 : Int32} {h : zH} : zcf X m_X_cellBeside [.int x0, .int x1] h = (if x0 < 0 then (some (some (.int (-1)), h)) else (if x0 < 36 then (if x1 = 0 then (if x0 < 6 then (some (some (.int (-1)), h)) else (some (some (.int (x0 - 6)), h))) else (if x1 = 1 then (if 5 ≤ (zrem x0 6) then (some (some (.int (-1)), h)) else (some (some (.int (x0 + 1)), h))) else (if x1 = 2 then (if 30 ≤ x0 then (some (some (.int (-1)), h)) else (some (some (.int (x0 + 6)), h))) else (if x1 = 3 then (if (zrem x0 6) ≤ 0 then (some (some (.int (-1)), h)) else (some (some (.int (x0 - 1)), h))) else (some (some (.int (-1)), h)))))) else (some (some (.int (-1)), h)))) := by
  refine (zcf_run (Nat.le_of_ble_eq_true rfl)).trans ?_
  show zrn X 0 m_X_cellBeside 0 [some (.int x0), some (.int x1), none] [] h = _
  refine (rn_ld d_X_cellBeside_0 rfl rfl rfl rfl).trans ?_
  refine (rn_if_lt d_X_cellBeside_1 (t := 10) (by decide)).trans (zif ?_ ?_)
  · refine (rn_push d_X_cellBeside_10 zcs_iconst_m1).trans ?_
    exact rn_ri d_X_cellBeside_11 rfl
  · refine (rn_ld d_X_cellBeside_4 rfl rfl rfl rfl).trans ?_
    refine (rn_push d_X_cellBeside_5 zcs_bipush_36).trans ?_
    refine (rn_ic_lt d_X_cellBeside_7 (t := 12) (by decide)).trans (zif ?_ ?_)
    · refine (rn_ld d_X_cellBeside_12 rfl rfl rfl rfl).trans ?_
      refine (rn_push d_X_cellBeside_13 zcs_bipush_6).trans ?_
      refine (rn_a2 d_X_cellBeside_15 (zar_rem (by decide))).trans ?_
      refine (rn_st d_X_cellBeside_16 rfl rfl rfl (by decide) rfl (Nat.le_of_ble_eq_true rfl) (ls' := [some (.int x0), some (.int x1), some (.int (zrem x0 6))]) rfl).trans ?_
      refine (rn_ld d_X_cellBeside_17 rfl rfl rfl rfl).trans ?_
      refine zite (fun q1 => ?_) (fun q1 => ?_)
      · refine (rn_tsw d_X_cellBeside_18 (t := 48) (by rw [q1]; decide +kernel)).trans ?_
        refine (rn_ld d_X_cellBeside_48 rfl rfl rfl rfl).trans ?_
        refine (rn_push d_X_cellBeside_49 zcs_bipush_6).trans ?_
        refine (rn_ic_lt d_X_cellBeside_51 (t := 61) (by decide)).trans (zif ?_ ?_)
        · refine (rn_push d_X_cellBeside_61 zcs_iconst_m1).trans ?_
          exact rn_ri d_X_cellBeside_62 rfl
        · refine (rn_ld d_X_cellBeside_54 rfl rfl rfl rfl).trans ?_
          refine (rn_push d_X_cellBeside_55 zcs_bipush_6).trans ?_
          refine (rn_a2 d_X_cellBeside_57 rfl).trans ?_
          refine (rn_goto d_X_cellBeside_58 (t := 62) (by decide)).trans ?_
          exact rn_ri d_X_cellBeside_62 rfl
      · refine zite (fun q2 => ?_) (fun q2 => ?_)
        · refine (rn_tsw d_X_cellBeside_18 (t := 63) (by rw [q2]; decide +kernel)).trans ?_
          refine (rn_ld d_X_cellBeside_63 rfl rfl rfl rfl).trans ?_
          refine (rn_push d_X_cellBeside_64 zcs_iconst_5).trans ?_
          refine (rn_ic_ge d_X_cellBeside_65 (t := 74) (by decide)).trans (zif ?_ ?_)
          · refine (rn_push d_X_cellBeside_74 zcs_iconst_m1).trans ?_
            exact rn_ri d_X_cellBeside_75 rfl
          · refine (rn_ld d_X_cellBeside_68 rfl rfl rfl rfl).trans ?_
            refine (rn_push d_X_cellBeside_69 zcs_iconst_1).trans ?_
            refine (rn_a2 d_X_cellBeside_70 rfl).trans ?_
            refine (rn_goto d_X_cellBeside_71 (t := 75) (by decide)).trans ?_
            exact rn_ri d_X_cellBeside_75 rfl
        · refine zite (fun q3 => ?_) (fun q3 => ?_)
          · refine (rn_tsw d_X_cellBeside_18 (t := 76) (by rw [q3]; decide +kernel)).trans ?_
            refine (rn_ld d_X_cellBeside_76 rfl rfl rfl rfl).trans ?_
            refine (rn_push d_X_cellBeside_77 zcs_bipush_30).trans ?_
            refine (rn_ic_ge d_X_cellBeside_79 (t := 89) (by decide)).trans (zif ?_ ?_)
            · refine (rn_push d_X_cellBeside_89 zcs_iconst_m1).trans ?_
              exact rn_ri d_X_cellBeside_90 rfl
            · refine (rn_ld d_X_cellBeside_82 rfl rfl rfl rfl).trans ?_
              refine (rn_push d_X_cellBeside_83 zcs_bipush_6).trans ?_
              refine (rn_a2 d_X_cellBeside_85 rfl).trans ?_
              refine (rn_goto d_X_cellBeside_86 (t := 90) (by decide)).trans ?_
              exact rn_ri d_X_cellBeside_90 rfl
          · refine zite (fun q4 => ?_) (fun q4 => ?_)
            · refine (rn_tsw d_X_cellBeside_18 (t := 91) (by rw [q4]; decide +kernel)).trans ?_
              refine (rn_ld d_X_cellBeside_91 rfl rfl rfl rfl).trans ?_
              refine (rn_if_le d_X_cellBeside_92 (t := 101) (by decide)).trans (zif ?_ ?_)
              · refine (rn_push d_X_cellBeside_101 zcs_iconst_m1).trans ?_
                exact rn_ri d_X_cellBeside_102 rfl
              · refine (rn_ld d_X_cellBeside_95 rfl rfl rfl rfl).trans ?_
                refine (rn_push d_X_cellBeside_96 zcs_iconst_1).trans ?_
                refine (rn_a2 d_X_cellBeside_97 rfl).trans ?_
                refine (rn_goto d_X_cellBeside_98 (t := 102) (by decide)).trans ?_
                exact rn_ri d_X_cellBeside_102 rfl
            · refine (rn_tsw d_X_cellBeside_18 (t := 103) (zsw_out (by have z0 := lv_neT q1 (a := 0) rfl; have z1 := lv_neT q2 (a := 1) rfl; have z2 := lv_neT q3 (a := 2) rfl; have z3 := lv_neT q4 (a := 3) rfl; omega) (by decide))).trans ?_
              refine (rn_push d_X_cellBeside_103 zcs_iconst_m1).trans ?_
              exact rn_ri d_X_cellBeside_104 rfl
    · refine (rn_push d_X_cellBeside_10 zcs_iconst_m1).trans ?_
      exact rn_ri d_X_cellBeside_11 rfl
theorem e_X_bitOf {X : zX} {x0 : Int32} {h : zH} : zcf X m_X_bitOf [.int x0] h = (if x0 < 0 then (some (some (.int 0), h)) else (if 32 ≤ x0 then (some (some (.int 0), h)) else (some (some (.int ((1 : Int32) <<< (x0 &&& 31))), h)))) := by
  refine (zcf_run (Nat.le_of_ble_eq_true rfl)).trans ?_
  show zrn X 0 m_X_bitOf 0 [some (.int x0)] [] h = _
  refine (rn_ld d_X_bitOf_0 rfl rfl rfl rfl).trans ?_
  refine (rn_if_lt d_X_bitOf_1 (t := 16) (by decide)).trans (zif ?_ ?_)
  · refine (rn_push d_X_bitOf_16 zcs_iconst_0).trans ?_
    exact rn_ri d_X_bitOf_17 rfl
  · refine (rn_ld d_X_bitOf_4 rfl rfl rfl rfl).trans ?_
    refine (rn_push d_X_bitOf_5 zcs_bipush_32).trans ?_
    refine (rn_ic_ge d_X_bitOf_7 (t := 16) (by decide)).trans (zif ?_ ?_)
    · refine (rn_push d_X_bitOf_16 zcs_iconst_0).trans ?_
      exact rn_ri d_X_bitOf_17 rfl
    · refine (rn_push d_X_bitOf_10 zcs_iconst_1).trans ?_
      refine (rn_ld d_X_bitOf_11 rfl rfl rfl rfl).trans ?_
      refine (rn_a2 d_X_bitOf_12 rfl).trans ?_
      refine (rn_goto d_X_bitOf_13 (t := 17) (by decide)).trans ?_
      exact rn_ri d_X_bitOf_17 rfl
theorem e_X_reach {X : zX} {x0 : Int32} {x1 : Int32} {h : zH} : zcf X m_X_reach [.int x0, .int x1] h = (if x0 = 1 then (some (some (.int (3 + 1)), h)) else (if x0 = 2 then (some (some (.int (1 + (x1 / 2))), h)) else (if x0 = 3 then (some (some (.int (2 * 3)), h)) else (if x0 = 4 then (some (some (.int 0), h)) else (if x0 = 5 then (some (some (.int ((3 + 1) + (x1 / 3))), h)) else (some (some (.int 3), h))))))) := by
  refine (zcf_run (Nat.le_of_ble_eq_true rfl)).trans ?_
  show zrn X 0 m_X_reach 0 [some (.int x0), some (.int x1), none, none] [] h = _
  refine (rn_push d_X_reach_0 zcs_iconst_3).trans ?_
  refine (rn_st d_X_reach_1 rfl rfl rfl (by decide) rfl (Nat.le_of_ble_eq_true rfl) (ls' := [some (.int x0), some (.int x1), some (.int 3), none]) rfl).trans ?_
  refine (rn_ld d_X_reach_2 rfl rfl rfl rfl).trans ?_
  refine (rn_push d_X_reach_3 zcs_iconst_1).trans ?_
  refine (rn_a2 d_X_reach_4 rfl).trans ?_
  refine (rn_st d_X_reach_5 rfl rfl rfl (by decide) rfl (Nat.le_of_ble_eq_true rfl) (ls' := [some (.int x0), some (.int x1), some (.int 3), some (.int (3 + 1))]) rfl).trans ?_
  refine (rn_ld d_X_reach_6 rfl rfl rfl rfl).trans ?_
  refine zite (fun q1 => ?_) (fun q1 => ?_)
  · refine (rn_tsw d_X_reach_7 (t := 40) (by rw [q1]; decide +kernel)).trans ?_
    refine (rn_ld d_X_reach_40 rfl rfl rfl rfl).trans ?_
    exact rn_ri d_X_reach_41 rfl
  · refine zite (fun q2 => ?_) (fun q2 => ?_)
    · refine (rn_tsw d_X_reach_7 (t := 42) (by rw [q2]; decide +kernel)).trans ?_
      refine (rn_push d_X_reach_42 zcs_iconst_1).trans ?_
      refine (rn_ld d_X_reach_43 rfl rfl rfl rfl).trans ?_
      refine (rn_push d_X_reach_44 zcs_iconst_2).trans ?_
      refine (rn_a2 d_X_reach_45 (zar_div (by decide))).trans ?_
      refine (rn_a2 d_X_reach_46 rfl).trans ?_
      exact rn_ri d_X_reach_47 rfl
    · refine zite (fun q3 => ?_) (fun q3 => ?_)
      · refine (rn_tsw d_X_reach_7 (t := 48) (by rw [q3]; decide +kernel)).trans ?_
        refine (rn_push d_X_reach_48 zcs_iconst_2).trans ?_
        refine (rn_ld d_X_reach_49 rfl rfl rfl rfl).trans ?_
        refine (rn_a2 d_X_reach_50 rfl).trans ?_
        exact rn_ri d_X_reach_51 rfl
      · refine zite (fun q4 => ?_) (fun q4 => ?_)
        · refine (rn_tsw d_X_reach_7 (t := 52) (by rw [q4]; decide +kernel)).trans ?_
          refine (rn_push d_X_reach_52 zcs_iconst_0).trans ?_
          exact rn_ri d_X_reach_53 rfl
        · refine zite (fun q5 => ?_) (fun q5 => ?_)
          · refine (rn_tsw d_X_reach_7 (t := 54) (by rw [q5]; decide +kernel)).trans ?_
            refine (rn_ld d_X_reach_54 rfl rfl rfl rfl).trans ?_
            refine (rn_ld d_X_reach_55 rfl rfl rfl rfl).trans ?_
            refine (rn_push d_X_reach_56 zcs_iconst_3).trans ?_
            refine (rn_a2 d_X_reach_57 (zar_div (by decide))).trans ?_
            refine (rn_a2 d_X_reach_58 rfl).trans ?_
            exact rn_ri d_X_reach_59 rfl
          · refine (rn_tsw d_X_reach_7 (t := 60) (zsw_out (by have z1 := lv_neT q1 (a := 1) rfl; have z2 := lv_neT q2 (a := 2) rfl; have z3 := lv_neT q3 (a := 3) rfl; have z4 := lv_neT q4 (a := 4) rfl; have z5 := lv_neT q5 (a := 5) rfl; omega) (by decide))).trans ?_
            refine (rn_ld d_X_reach_60 rfl rfl rfl rfl).trans ?_
            exact rn_ri d_X_reach_61 rfl
theorem e_X_personOf {X : zX} {x1 : Int32} {x2 : Int32} {h : zH} : zcf X m_X_personOf [.ref 1, .int x1, .int x2] h = (zbI (zcf X m_H_has [.ref 2, .int x1] h) fun v2 h1 => (if v2 = 0 then (zbI (zcf X m_X_refuse [.ref 1, .int (-1)] h1) fun v4 h3 => (some (some (.int v4), h3))) else (if x2 = 0 then (zbI (zcf X m_H_kindOf [.ref 2, .int x1] h1) fun v7 h6 => (some (some (.int v7), h6))) else (if x2 = 1 then (zbI (zcf X m_H_figureOf [.ref 2, .int x1] h1) fun v10 h9 => (some (some (.int v10), h9))) else (if x2 = 2 then (zbI (zcf X m_H_cellOf [.ref 2, .int x1] h1) fun v13 h12 => (some (some (.int v13), h12))) else (if x2 = 3 then (zbI (zcf X m_H_facesOf [.ref 2, .int x1] h1) fun v16 h15 => (some (some (.int v16), h15))) else (if x2 = 4 then (zbI (zcf X m_H_startsOf [.ref 2, .int x1] h1) fun v19 h18 => (some (some (.int v19), h18))) else (if x2 = 5 then (zbI (zcf X m_H_reachOf [.ref 2, .int x1] h1) fun v22 h21 => (some (some (.int v22), h21))) else (if x2 = 6 then (zbI (zcf X m_H_depthOf [.ref 2, .int x1] h1) fun v25 h24 => (some (some (.int v25), h24))) else (zbI (zcf X m_X_refuse [.ref 1, .int (-2)] h1) fun v27 h26 => (some (some (.int v27), h26)))))))))))) := by
  refine (zcf_run (Nat.le_of_ble_eq_true rfl)).trans ?_
  show zrn X 2 m_X_personOf 0 [some (.ref 1), some (.int x1), some (.int x2)] [] h = _
  refine (rn_ld d_X_personOf_0 rfl rfl rfl rfl).trans ?_
  refine (rn_gr d_X_personOf_1 f_3_10 zc_1 zr_1_0).trans ?_
  refine (rn_ld d_X_personOf_4 rfl rfl rfl rfl).trans ?_
  refine (rn_vI d_X_personOf_5 (zinv_v l_3_85 (by decide) (Nat.le_of_ble_eq_true rfl) rfl rfl zc_2 (Nat.le_of_ble_eq_true rfl)) (Nat.le_of_ble_eq_true rfl) (Or.inr rfl)).trans (zbI_congr fun v2 h1 => ?_)
  refine (rn_if_ne d_X_personOf_8 (t := 17) (by decide)).trans (zif ?_ ?_)
  · refine (rn_ld d_X_personOf_11 rfl rfl rfl rfl).trans ?_
    refine (rn_push d_X_personOf_12 zcs_iconst_m1).trans ?_
    refine (rn_vI d_X_personOf_13 (zinv_v l_3_55 (by decide) (Nat.le_of_ble_eq_true rfl) rfl rfl zc_1 (Nat.le_of_ble_eq_true rfl)) (Nat.le_of_ble_eq_true rfl) (Or.inl rfl)).trans (zbI_congr fun v4 h3 => ?_)
    exact rn_ri d_X_personOf_16 rfl
  · refine (rn_ld d_X_personOf_17 rfl rfl rfl rfl).trans ?_
    refine zite (fun q5 => ?_) (fun q5 => ?_)
    · refine (rn_tsw d_X_personOf_18 (t := 60) (by rw [q5]; decide +kernel)).trans ?_
      refine (rn_ld d_X_personOf_60 rfl rfl rfl rfl).trans ?_
      refine (rn_gr d_X_personOf_61 f_3_10 zc_1 zr_1_0).trans ?_
      refine (rn_ld d_X_personOf_64 rfl rfl rfl rfl).trans ?_
      refine (rn_vI d_X_personOf_65 (zinv_v l_3_88 (by decide) (Nat.le_of_ble_eq_true rfl) rfl rfl zc_2 (Nat.le_of_ble_eq_true rfl)) (Nat.le_of_ble_eq_true rfl) (Or.inl rfl)).trans (zbI_congr fun v7 h6 => ?_)
      exact rn_ri d_X_personOf_68 rfl
    · refine zite (fun q8 => ?_) (fun q8 => ?_)
      · refine (rn_tsw d_X_personOf_18 (t := 69) (by rw [q8]; decide +kernel)).trans ?_
        refine (rn_ld d_X_personOf_69 rfl rfl rfl rfl).trans ?_
        refine (rn_gr d_X_personOf_70 f_3_10 zc_1 zr_1_0).trans ?_
        refine (rn_ld d_X_personOf_73 rfl rfl rfl rfl).trans ?_
        refine (rn_vI d_X_personOf_74 (zinv_v l_3_91 (by decide) (Nat.le_of_ble_eq_true rfl) rfl rfl zc_2 (Nat.le_of_ble_eq_true rfl)) (Nat.le_of_ble_eq_true rfl) (Or.inl rfl)).trans (zbI_congr fun v10 h9 => ?_)
        exact rn_ri d_X_personOf_77 rfl
      · refine zite (fun q11 => ?_) (fun q11 => ?_)
        · refine (rn_tsw d_X_personOf_18 (t := 78) (by rw [q11]; decide +kernel)).trans ?_
          refine (rn_ld d_X_personOf_78 rfl rfl rfl rfl).trans ?_
          refine (rn_gr d_X_personOf_79 f_3_10 zc_1 zr_1_0).trans ?_
          refine (rn_ld d_X_personOf_82 rfl rfl rfl rfl).trans ?_
          refine (rn_vI d_X_personOf_83 (zinv_v l_3_94 (by decide) (Nat.le_of_ble_eq_true rfl) rfl rfl zc_2 (Nat.le_of_ble_eq_true rfl)) (Nat.le_of_ble_eq_true rfl) (Or.inl rfl)).trans (zbI_congr fun v13 h12 => ?_)
          exact rn_ri d_X_personOf_86 rfl
        · refine zite (fun q14 => ?_) (fun q14 => ?_)
          · refine (rn_tsw d_X_personOf_18 (t := 87) (by rw [q14]; decide +kernel)).trans ?_
            refine (rn_ld d_X_personOf_87 rfl rfl rfl rfl).trans ?_
            refine (rn_gr d_X_personOf_88 f_3_10 zc_1 zr_1_0).trans ?_
            refine (rn_ld d_X_personOf_91 rfl rfl rfl rfl).trans ?_
            refine (rn_vI d_X_personOf_92 (zinv_v l_3_97 (by decide) (Nat.le_of_ble_eq_true rfl) rfl rfl zc_2 (Nat.le_of_ble_eq_true rfl)) (Nat.le_of_ble_eq_true rfl) (Or.inl rfl)).trans (zbI_congr fun v16 h15 => ?_)
            exact rn_ri d_X_personOf_95 rfl
          · refine zite (fun q17 => ?_) (fun q17 => ?_)
            · refine (rn_tsw d_X_personOf_18 (t := 96) (by rw [q17]; decide +kernel)).trans ?_
              refine (rn_ld d_X_personOf_96 rfl rfl rfl rfl).trans ?_
              refine (rn_gr d_X_personOf_97 f_3_10 zc_1 zr_1_0).trans ?_
              refine (rn_ld d_X_personOf_100 rfl rfl rfl rfl).trans ?_
              refine (rn_vI d_X_personOf_101 (zinv_v l_3_100 (by decide) (Nat.le_of_ble_eq_true rfl) rfl rfl zc_2 (Nat.le_of_ble_eq_true rfl)) (Nat.le_of_ble_eq_true rfl) (Or.inl rfl)).trans (zbI_congr fun v19 h18 => ?_)
              exact rn_ri d_X_personOf_104 rfl
            · refine zite (fun q20 => ?_) (fun q20 => ?_)
              · refine (rn_tsw d_X_personOf_18 (t := 105) (by rw [q20]; decide +kernel)).trans ?_
                refine (rn_ld d_X_personOf_105 rfl rfl rfl rfl).trans ?_
                refine (rn_gr d_X_personOf_106 f_3_10 zc_1 zr_1_0).trans ?_
                refine (rn_ld d_X_personOf_109 rfl rfl rfl rfl).trans ?_
                refine (rn_vI d_X_personOf_110 (zinv_v l_3_103 (by decide) (Nat.le_of_ble_eq_true rfl) rfl rfl zc_2 (Nat.le_of_ble_eq_true rfl)) (Nat.le_of_ble_eq_true rfl) (Or.inl rfl)).trans (zbI_congr fun v22 h21 => ?_)
                exact rn_ri d_X_personOf_113 rfl
              · refine zite (fun q23 => ?_) (fun q23 => ?_)
                · refine (rn_tsw d_X_personOf_18 (t := 114) (by rw [q23]; decide +kernel)).trans ?_
                  refine (rn_ld d_X_personOf_114 rfl rfl rfl rfl).trans ?_
                  refine (rn_gr d_X_personOf_115 f_3_10 zc_1 zr_1_0).trans ?_
                  refine (rn_ld d_X_personOf_118 rfl rfl rfl rfl).trans ?_
                  refine (rn_vI d_X_personOf_119 (zinv_v l_3_106 (by decide) (Nat.le_of_ble_eq_true rfl) rfl rfl zc_2 (Nat.le_of_ble_eq_true rfl)) (Nat.le_of_ble_eq_true rfl) (Or.inl rfl)).trans (zbI_congr fun v25 h24 => ?_)
                  exact rn_ri d_X_personOf_122 rfl
                · refine (rn_tsw d_X_personOf_18 (t := 123) (zsw_out (by have z0 := lv_neT q5 (a := 0) rfl; have z1 := lv_neT q8 (a := 1) rfl; have z2 := lv_neT q11 (a := 2) rfl; have z3 := lv_neT q14 (a := 3) rfl; have z4 := lv_neT q17 (a := 4) rfl; have z5 := lv_neT q20 (a := 5) rfl; have z6 := lv_neT q23 (a := 6) rfl; omega) (by decide))).trans ?_
                  refine (rn_ld d_X_personOf_123 rfl rfl rfl rfl).trans ?_
                  refine (rn_push d_X_personOf_124 zcs_bipush_m2).trans ?_
                  refine (rn_vI d_X_personOf_126 (zinv_v l_3_55 (by decide) (Nat.le_of_ble_eq_true rfl) rfl rfl zc_1 (Nat.le_of_ble_eq_true rfl)) (Nat.le_of_ble_eq_true rfl) (Or.inl rfl)).trans (zbI_congr fun v27 h26 => ?_)
                  exact rn_ri d_X_personOf_129 rfl
theorem e_X_person {X : zX} {x1 : Int32} {x2 : Int32} {x3 : Int32} {x4 : Int32} {h : zH} : zcf X m_X_person [.ref 1, .int x1, .int x2, .int x3, .int x4] h = (zbI (zcf X m_X_isKind [.int x1] h) fun v2 h1 => (if v2 = 0 then (zbI (zcf X m_X_refuse [.ref 1, .int (-2)] h1) fun v4 h3 => (some (some (.int v4), h3))) else (if 0 ≤ x2 then (if 10 ≤ x2 then (zbI (zcf X m_X_refuse [.ref 1, .int (-6)] h1) fun v6 h5 => (some (some (.int v6), h5))) else (if (h1.1 2 5) < 6 then (zbI (zcf X m_X_isCell [.int x3] h1) fun v8 h7 => (if v8 = 0 then (zbI (zcf X m_X_refuse [.ref 1, .int (-1)] h7) fun v10 h9 => (some (some (.int v10), h9))) else (zbI (zcf X m_X_isWay [.int x4] h7) fun v12 h11 => (if v12 = 0 then (zbI (zcf X m_X_refuse [.ref 1, .int (-1)] h11) fun v14 h13 => (some (some (.int v14), h13))) else (zbI (zcf X m_H_isFree [.ref 2, .int x3] h11) fun v16 h15 => (if v16 = 0 then (zbI (zcf X m_X_refuse [.ref 1, .int (-3)] h15) fun v18 h17 => (some (some (.int v18), h17))) else (zbV (zcf X m_P_forget [.ref 21] h15) fun h19 => (zbI (zcf X m_H_join [.ref 2, .int x1, .int x2, .int x3, .int x4] h19) fun v21 h20 => (some (some (.int v21), h20)))))))))) else (zbI (zcf X m_X_refuse [.ref 1, .int (-6)] h1) fun v23 h22 => (some (some (.int v23), h22))))) else (zbI (zcf X m_X_refuse [.ref 1, .int (-4)] h1) fun v25 h24 => (some (some (.int v25), h24)))))) := by
  refine (zcf_run (Nat.le_of_ble_eq_true rfl)).trans ?_
  show zrn X 2 m_X_person 0 [some (.ref 1), some (.int x1), some (.int x2), some (.int x3), some (.int x4)] [] h = _
  refine (rn_ld d_X_person_0 rfl rfl rfl rfl).trans ?_
  refine (rn_sI d_X_person_1 nb_3_109 (zinv_s l_3_109 (by decide) (Nat.le_of_ble_eq_true rfl) rfl rfl (Nat.le_of_ble_eq_true rfl)) (Nat.le_of_ble_eq_true rfl) (Or.inr rfl)).trans (zbI_congr fun v2 h1 => ?_)
  refine (rn_if_ne d_X_person_4 (t := 14) (by decide)).trans (zif ?_ ?_)
  · refine (rn_ld d_X_person_7 rfl rfl rfl rfl).trans ?_
    refine (rn_push d_X_person_8 zcs_bipush_m2).trans ?_
    refine (rn_vI d_X_person_10 (zinv_v l_3_55 (by decide) (Nat.le_of_ble_eq_true rfl) rfl rfl zc_1 (Nat.le_of_ble_eq_true rfl)) (Nat.le_of_ble_eq_true rfl) (Or.inl rfl)).trans (zbI_congr fun v4 h3 => ?_)
    exact rn_ri d_X_person_13 rfl
  · refine (rn_ld d_X_person_14 rfl rfl rfl rfl).trans ?_
    refine (rn_if_ge d_X_person_15 (t := 25) (by decide)).trans (zif ?_ ?_)
    · refine (rn_ld d_X_person_25 rfl rfl rfl rfl).trans ?_
      refine (rn_push d_X_person_26 zcs_bipush_10).trans ?_
      refine (rn_ic_ge d_X_person_28 (t := 43) (by decide)).trans (zif ?_ ?_)
      · refine (rn_ld d_X_person_43 rfl rfl rfl rfl).trans ?_
        refine (rn_push d_X_person_44 zcs_bipush_m6).trans ?_
        refine (rn_vI d_X_person_46 (zinv_v l_3_55 (by decide) (Nat.le_of_ble_eq_true rfl) rfl rfl zc_1 (Nat.le_of_ble_eq_true rfl)) (Nat.le_of_ble_eq_true rfl) (Or.inl rfl)).trans (zbI_congr fun v6 h5 => ?_)
        exact rn_ri d_X_person_49 rfl
      · refine (rn_ld d_X_person_31 rfl rfl rfl rfl).trans ?_
        refine (rn_gr d_X_person_32 f_3_10 zc_1 zr_1_0).trans ?_
        refine (rn_gi d_X_person_35 f_3_112 zc_2).trans ?_
        refine (rn_push d_X_person_38 zcs_bipush_6).trans ?_
        refine (rn_ic_lt d_X_person_40 (t := 50) (by decide)).trans (zif ?_ ?_)
        · refine (rn_ld d_X_person_50 rfl rfl rfl rfl).trans ?_
          refine (rn_sI d_X_person_51 nb_3_113 (zinv_s l_3_113 (by decide) (Nat.le_of_ble_eq_true rfl) rfl rfl (Nat.le_of_ble_eq_true rfl)) (Nat.le_of_ble_eq_true rfl) (Or.inr rfl)).trans (zbI_congr fun v8 h7 => ?_)
          refine (rn_if_eq d_X_person_54 (t := 65) (by decide)).trans (zif ?_ ?_)
          · refine (rn_ld d_X_person_65 rfl rfl rfl rfl).trans ?_
            refine (rn_push d_X_person_66 zcs_iconst_m1).trans ?_
            refine (rn_vI d_X_person_67 (zinv_v l_3_55 (by decide) (Nat.le_of_ble_eq_true rfl) rfl rfl zc_1 (Nat.le_of_ble_eq_true rfl)) (Nat.le_of_ble_eq_true rfl) (Or.inl rfl)).trans (zbI_congr fun v10 h9 => ?_)
            exact rn_ri d_X_person_70 rfl
          · refine (rn_ld d_X_person_57 rfl rfl rfl rfl).trans ?_
            refine (rn_sI d_X_person_59 nb_3_116 (zinv_s l_3_116 (by decide) (Nat.le_of_ble_eq_true rfl) rfl rfl (Nat.le_of_ble_eq_true rfl)) (Nat.le_of_ble_eq_true rfl) (Or.inr rfl)).trans (zbI_congr fun v12 h11 => ?_)
            refine (rn_if_ne d_X_person_62 (t := 71) (by decide)).trans (zif ?_ ?_)
            · refine (rn_ld d_X_person_65 rfl rfl rfl rfl).trans ?_
              refine (rn_push d_X_person_66 zcs_iconst_m1).trans ?_
              refine (rn_vI d_X_person_67 (zinv_v l_3_55 (by decide) (Nat.le_of_ble_eq_true rfl) rfl rfl zc_1 (Nat.le_of_ble_eq_true rfl)) (Nat.le_of_ble_eq_true rfl) (Or.inl rfl)).trans (zbI_congr fun v14 h13 => ?_)
              exact rn_ri d_X_person_70 rfl
            · refine (rn_ld d_X_person_71 rfl rfl rfl rfl).trans ?_
              refine (rn_gr d_X_person_72 f_3_10 zc_1 zr_1_0).trans ?_
              refine (rn_ld d_X_person_75 rfl rfl rfl rfl).trans ?_
              refine (rn_vI d_X_person_76 (zinv_v l_3_119 (by decide) (Nat.le_of_ble_eq_true rfl) rfl rfl zc_2 (Nat.le_of_ble_eq_true rfl)) (Nat.le_of_ble_eq_true rfl) (Or.inr rfl)).trans (zbI_congr fun v16 h15 => ?_)
              refine (rn_if_ne d_X_person_79 (t := 89) (by decide)).trans (zif ?_ ?_)
              · refine (rn_ld d_X_person_82 rfl rfl rfl rfl).trans ?_
                refine (rn_push d_X_person_83 zcs_bipush_m3).trans ?_
                refine (rn_vI d_X_person_85 (zinv_v l_3_55 (by decide) (Nat.le_of_ble_eq_true rfl) rfl rfl zc_1 (Nat.le_of_ble_eq_true rfl)) (Nat.le_of_ble_eq_true rfl) (Or.inl rfl)).trans (zbI_congr fun v18 h17 => ?_)
                exact rn_ri d_X_person_88 rfl
              · refine (rn_ld d_X_person_89 rfl rfl rfl rfl).trans ?_
                refine (rn_gr d_X_person_90 f_3_33 zc_1 zr_1_5).trans ?_
                refine (rn_vV d_X_person_93 (zinv_v l_3_84 (by decide) (Nat.le_of_ble_eq_true rfl) rfl rfl zc_21 (Nat.le_of_ble_eq_true rfl)) (Nat.le_of_ble_eq_true rfl) rfl).trans (zbV_congr fun h19 => ?_)
                refine (rn_ld d_X_person_96 rfl rfl rfl rfl).trans ?_
                refine (rn_gr d_X_person_97 f_3_10 zc_1 zr_1_0).trans ?_
                refine (rn_ld d_X_person_100 rfl rfl rfl rfl).trans ?_
                refine (rn_ld d_X_person_101 rfl rfl rfl rfl).trans ?_
                refine (rn_ld d_X_person_102 rfl rfl rfl rfl).trans ?_
                refine (rn_ld d_X_person_103 rfl rfl rfl rfl).trans ?_
                refine (rn_vI d_X_person_105 (zinv_v l_3_122 (by decide) (Nat.le_of_ble_eq_true rfl) rfl rfl zc_2 (Nat.le_of_ble_eq_true rfl)) (Nat.le_of_ble_eq_true rfl) (Or.inl rfl)).trans (zbI_congr fun v21 h20 => ?_)
                exact rn_ri d_X_person_108 rfl
        · refine (rn_ld d_X_person_43 rfl rfl rfl rfl).trans ?_
          refine (rn_push d_X_person_44 zcs_bipush_m6).trans ?_
          refine (rn_vI d_X_person_46 (zinv_v l_3_55 (by decide) (Nat.le_of_ble_eq_true rfl) rfl rfl zc_1 (Nat.le_of_ble_eq_true rfl)) (Nat.le_of_ble_eq_true rfl) (Or.inl rfl)).trans (zbI_congr fun v23 h22 => ?_)
          exact rn_ri d_X_person_49 rfl
    · refine (rn_ld d_X_person_18 rfl rfl rfl rfl).trans ?_
      refine (rn_push d_X_person_19 zcs_bipush_m4).trans ?_
      refine (rn_vI d_X_person_21 (zinv_v l_3_55 (by decide) (Nat.le_of_ble_eq_true rfl) rfl rfl zc_1 (Nat.le_of_ble_eq_true rfl)) (Nat.le_of_ble_eq_true rfl) (Or.inl rfl)).trans (zbI_congr fun v25 h24 => ?_)
      exact rn_ri d_X_person_24 rfl
theorem e_X_turns {X : zX} {x1 : Int32} {x2 : Int32} {h : zH} : zcf X m_X_turns [.ref 1, .int x1, .int x2] h = (zbI (zcf X m_H_has [.ref 2, .int x1] h) fun v2 h1 => (if v2 = 0 then (zbI (zcf X m_X_refuse [.ref 1, .int (-1)] h1) fun v4 h3 => (some (some (.int v4), h3))) else (zbI (zcf X m_X_isWay [.int x2] h1) fun v6 h5 => (if v6 = 0 then (zbI (zcf X m_X_refuse [.ref 1, .int (-1)] h5) fun v8 h7 => (some (some (.int v8), h7))) else (zbV (zcf X m_P_keep [.ref 21, .ref 2] h5) fun h9 => (zbI (zcf X m_H_facesOf [.ref 2, .int x1] h9) fun v11 h10 => (zbV (zcf X m_H_face [.ref 2, .int x1, .int x2] h10) fun h12 => (some (some (.int v11), h12))))))))) := by
  refine (zcf_run (Nat.le_of_ble_eq_true rfl)).trans ?_
  show zrn X 3 m_X_turns 0 [some (.ref 1), some (.int x1), some (.int x2), none] [] h = _
  refine (rn_ld d_X_turns_0 rfl rfl rfl rfl).trans ?_
  refine (rn_gr d_X_turns_1 f_3_10 zc_1 zr_1_0).trans ?_
  refine (rn_ld d_X_turns_4 rfl rfl rfl rfl).trans ?_
  refine (rn_vI d_X_turns_5 (zinv_v l_3_85 (by decide) (Nat.le_of_ble_eq_true rfl) rfl rfl zc_2 (Nat.le_of_ble_eq_true rfl)) (Nat.le_of_ble_eq_true rfl) (Or.inr rfl)).trans (zbI_congr fun v2 h1 => ?_)
  refine (rn_if_eq d_X_turns_8 (t := 18) (by decide)).trans (zif ?_ ?_)
  · refine (rn_ld d_X_turns_18 rfl rfl rfl rfl).trans ?_
    refine (rn_push d_X_turns_19 zcs_iconst_m1).trans ?_
    refine (rn_vI d_X_turns_20 (zinv_v l_3_55 (by decide) (Nat.le_of_ble_eq_true rfl) rfl rfl zc_1 (Nat.le_of_ble_eq_true rfl)) (Nat.le_of_ble_eq_true rfl) (Or.inl rfl)).trans (zbI_congr fun v4 h3 => ?_)
    exact rn_ri d_X_turns_23 rfl
  · refine (rn_ld d_X_turns_11 rfl rfl rfl rfl).trans ?_
    refine (rn_sI d_X_turns_12 nb_3_116 (zinv_s l_3_116 (by decide) (Nat.le_of_ble_eq_true rfl) rfl rfl (Nat.le_of_ble_eq_true rfl)) (Nat.le_of_ble_eq_true rfl) (Or.inr rfl)).trans (zbI_congr fun v6 h5 => ?_)
    refine (rn_if_ne d_X_turns_15 (t := 24) (by decide)).trans (zif ?_ ?_)
    · refine (rn_ld d_X_turns_18 rfl rfl rfl rfl).trans ?_
      refine (rn_push d_X_turns_19 zcs_iconst_m1).trans ?_
      refine (rn_vI d_X_turns_20 (zinv_v l_3_55 (by decide) (Nat.le_of_ble_eq_true rfl) rfl rfl zc_1 (Nat.le_of_ble_eq_true rfl)) (Nat.le_of_ble_eq_true rfl) (Or.inl rfl)).trans (zbI_congr fun v8 h7 => ?_)
      exact rn_ri d_X_turns_23 rfl
    · refine (rn_ld d_X_turns_24 rfl rfl rfl rfl).trans ?_
      refine (rn_gr d_X_turns_25 f_3_33 zc_1 zr_1_5).trans ?_
      refine (rn_ld d_X_turns_28 rfl rfl rfl rfl).trans ?_
      refine (rn_gr d_X_turns_29 f_3_10 zc_1 zr_1_0).trans ?_
      refine (rn_vV d_X_turns_32 (zinv_v l_3_126 (by decide) (Nat.le_of_ble_eq_true rfl) rfl rfl zc_21 (Nat.le_of_ble_eq_true rfl)) (Nat.le_of_ble_eq_true rfl) rfl).trans (zbV_congr fun h9 => ?_)
      refine (rn_ld d_X_turns_35 rfl rfl rfl rfl).trans ?_
      refine (rn_gr d_X_turns_36 f_3_10 zc_1 zr_1_0).trans ?_
      refine (rn_ld d_X_turns_39 rfl rfl rfl rfl).trans ?_
      refine (rn_vI d_X_turns_40 (zinv_v l_3_97 (by decide) (Nat.le_of_ble_eq_true rfl) rfl rfl zc_2 (Nat.le_of_ble_eq_true rfl)) (Nat.le_of_ble_eq_true rfl) (Or.inl rfl)).trans (zbI_congr fun v11 h10 => ?_)
      refine (rn_st d_X_turns_43 rfl rfl rfl (by decide) rfl (Nat.le_of_ble_eq_true rfl) (ls' := [some (.ref 1), some (.int x1), some (.int x2), some (.int v11)]) rfl).trans ?_
      refine (rn_ld d_X_turns_44 rfl rfl rfl rfl).trans ?_
      refine (rn_gr d_X_turns_45 f_3_10 zc_1 zr_1_0).trans ?_
      refine (rn_ld d_X_turns_48 rfl rfl rfl rfl).trans ?_
      refine (rn_ld d_X_turns_49 rfl rfl rfl rfl).trans ?_
      refine (rn_vV d_X_turns_50 (zinv_v l_3_129 (by decide) (Nat.le_of_ble_eq_true rfl) rfl rfl zc_2 (Nat.le_of_ble_eq_true rfl)) (Nat.le_of_ble_eq_true rfl) rfl).trans (zbV_congr fun h12 => ?_)
      refine (rn_ld d_X_turns_53 rfl rfl rfl rfl).trans ?_
      exact rn_ri d_X_turns_54 rfl
theorem e_X_stands {X : zX} {x1 : Int32} {x2 : Int32} {h : zH} : zcf X m_X_stands [.ref 1, .int x1, .int x2] h = (zbI (zcf X m_H_has [.ref 2, .int x1] h) fun v2 h1 => (if v2 = 0 then (zbI (zcf X m_X_refuse [.ref 1, .int (-1)] h1) fun v4 h3 => (some (some (.int v4), h3))) else (zbI (zcf X m_X_isCell [.int x2] h1) fun v6 h5 => (if v6 = 0 then (zbI (zcf X m_X_refuse [.ref 1, .int (-1)] h5) fun v8 h7 => (some (some (.int v8), h7))) else (zbI (zcf X m_H_isFree [.ref 2, .int x2] h5) fun v10 h9 => (if v10 = 0 then (zbI (zcf X m_X_refuse [.ref 1, .int (-3)] h9) fun v12 h11 => (some (some (.int v12), h11))) else (zbV (zcf X m_P_keep [.ref 21, .ref 2] h9) fun h13 => (zbI (zcf X m_H_cellOf [.ref 2, .int x1] h13) fun v15 h14 => (zbV (zcf X m_H_place [.ref 2, .int x1, .int x2] h14) fun h16 => (some (some (.int v15), h16))))))))))) := by
  refine (zcf_run (Nat.le_of_ble_eq_true rfl)).trans ?_
  show zrn X 3 m_X_stands 0 [some (.ref 1), some (.int x1), some (.int x2), none] [] h = _
  refine (rn_ld d_X_stands_0 rfl rfl rfl rfl).trans ?_
  refine (rn_gr d_X_stands_1 f_3_10 zc_1 zr_1_0).trans ?_
  refine (rn_ld d_X_stands_4 rfl rfl rfl rfl).trans ?_
  refine (rn_vI d_X_stands_5 (zinv_v l_3_85 (by decide) (Nat.le_of_ble_eq_true rfl) rfl rfl zc_2 (Nat.le_of_ble_eq_true rfl)) (Nat.le_of_ble_eq_true rfl) (Or.inr rfl)).trans (zbI_congr fun v2 h1 => ?_)
  refine (rn_if_eq d_X_stands_8 (t := 18) (by decide)).trans (zif ?_ ?_)
  · refine (rn_ld d_X_stands_18 rfl rfl rfl rfl).trans ?_
    refine (rn_push d_X_stands_19 zcs_iconst_m1).trans ?_
    refine (rn_vI d_X_stands_20 (zinv_v l_3_55 (by decide) (Nat.le_of_ble_eq_true rfl) rfl rfl zc_1 (Nat.le_of_ble_eq_true rfl)) (Nat.le_of_ble_eq_true rfl) (Or.inl rfl)).trans (zbI_congr fun v4 h3 => ?_)
    exact rn_ri d_X_stands_23 rfl
  · refine (rn_ld d_X_stands_11 rfl rfl rfl rfl).trans ?_
    refine (rn_sI d_X_stands_12 nb_3_113 (zinv_s l_3_113 (by decide) (Nat.le_of_ble_eq_true rfl) rfl rfl (Nat.le_of_ble_eq_true rfl)) (Nat.le_of_ble_eq_true rfl) (Or.inr rfl)).trans (zbI_congr fun v6 h5 => ?_)
    refine (rn_if_ne d_X_stands_15 (t := 24) (by decide)).trans (zif ?_ ?_)
    · refine (rn_ld d_X_stands_18 rfl rfl rfl rfl).trans ?_
      refine (rn_push d_X_stands_19 zcs_iconst_m1).trans ?_
      refine (rn_vI d_X_stands_20 (zinv_v l_3_55 (by decide) (Nat.le_of_ble_eq_true rfl) rfl rfl zc_1 (Nat.le_of_ble_eq_true rfl)) (Nat.le_of_ble_eq_true rfl) (Or.inl rfl)).trans (zbI_congr fun v8 h7 => ?_)
      exact rn_ri d_X_stands_23 rfl
    · refine (rn_ld d_X_stands_24 rfl rfl rfl rfl).trans ?_
      refine (rn_gr d_X_stands_25 f_3_10 zc_1 zr_1_0).trans ?_
      refine (rn_ld d_X_stands_28 rfl rfl rfl rfl).trans ?_
      refine (rn_vI d_X_stands_29 (zinv_v l_3_119 (by decide) (Nat.le_of_ble_eq_true rfl) rfl rfl zc_2 (Nat.le_of_ble_eq_true rfl)) (Nat.le_of_ble_eq_true rfl) (Or.inr rfl)).trans (zbI_congr fun v10 h9 => ?_)
      refine (rn_if_ne d_X_stands_32 (t := 42) (by decide)).trans (zif ?_ ?_)
      · refine (rn_ld d_X_stands_35 rfl rfl rfl rfl).trans ?_
        refine (rn_push d_X_stands_36 zcs_bipush_m3).trans ?_
        refine (rn_vI d_X_stands_38 (zinv_v l_3_55 (by decide) (Nat.le_of_ble_eq_true rfl) rfl rfl zc_1 (Nat.le_of_ble_eq_true rfl)) (Nat.le_of_ble_eq_true rfl) (Or.inl rfl)).trans (zbI_congr fun v12 h11 => ?_)
        exact rn_ri d_X_stands_41 rfl
      · refine (rn_ld d_X_stands_42 rfl rfl rfl rfl).trans ?_
        refine (rn_gr d_X_stands_43 f_3_33 zc_1 zr_1_5).trans ?_
        refine (rn_ld d_X_stands_46 rfl rfl rfl rfl).trans ?_
        refine (rn_gr d_X_stands_47 f_3_10 zc_1 zr_1_0).trans ?_
        refine (rn_vV d_X_stands_50 (zinv_v l_3_126 (by decide) (Nat.le_of_ble_eq_true rfl) rfl rfl zc_21 (Nat.le_of_ble_eq_true rfl)) (Nat.le_of_ble_eq_true rfl) rfl).trans (zbV_congr fun h13 => ?_)
        refine (rn_ld d_X_stands_53 rfl rfl rfl rfl).trans ?_
        refine (rn_gr d_X_stands_54 f_3_10 zc_1 zr_1_0).trans ?_
        refine (rn_ld d_X_stands_57 rfl rfl rfl rfl).trans ?_
        refine (rn_vI d_X_stands_58 (zinv_v l_3_94 (by decide) (Nat.le_of_ble_eq_true rfl) rfl rfl zc_2 (Nat.le_of_ble_eq_true rfl)) (Nat.le_of_ble_eq_true rfl) (Or.inl rfl)).trans (zbI_congr fun v15 h14 => ?_)
        refine (rn_st d_X_stands_61 rfl rfl rfl (by decide) rfl (Nat.le_of_ble_eq_true rfl) (ls' := [some (.ref 1), some (.int x1), some (.int x2), some (.int v15)]) rfl).trans ?_
        refine (rn_ld d_X_stands_62 rfl rfl rfl rfl).trans ?_
        refine (rn_gr d_X_stands_63 f_3_10 zc_1 zr_1_0).trans ?_
        refine (rn_ld d_X_stands_66 rfl rfl rfl rfl).trans ?_
        refine (rn_ld d_X_stands_67 rfl rfl rfl rfl).trans ?_
        refine (rn_vV d_X_stands_68 (zinv_v l_3_133 (by decide) (Nat.le_of_ble_eq_true rfl) rfl rfl zc_2 (Nat.le_of_ble_eq_true rfl)) (Nat.le_of_ble_eq_true rfl) rfl).trans (zbV_congr fun h16 => ?_)
        refine (rn_ld d_X_stands_71 rfl rfl rfl rfl).trans ?_
        exact rn_ri d_X_stands_72 rfl
theorem e_X_nights {X : zX} {x1 : Int32} {h : zH} : zcf X m_X_nights [.ref 1, .int x1] h = (if 1 ≤ x1 then (zbI (zcf X m_H_hasRoomFor [.ref 2, .int x1] h) fun v2 h1 => (if v2 = 0 then (zbI (zcf X m_X_refuse [.ref 1, .int (-6)] h1) fun v4 h3 => (some (some (.int v4), h3))) else (zbV (zcf X m_P_keep [.ref 21, .ref 2] h1) fun h5 => (zbV (zcf X m_H_pass [.ref 2, .int x1] h5) fun h6 => (zbI (zcf X m_H_startsTogether [.ref 2] h6) fun v8 h7 => (some (some (.int v8), h7))))))) else (zbI (zcf X m_X_refuse [.ref 1, .int (-4)] h) fun v10 h9 => (some (some (.int v10), h9)))) := by
  refine (zcf_run (Nat.le_of_ble_eq_true rfl)).trans ?_
  show zrn X 6 m_X_nights 0 [some (.ref 1), some (.int x1)] [] h = _
  refine (rn_ld d_X_nights_0 rfl rfl rfl rfl).trans ?_
  refine (rn_push d_X_nights_1 zcs_iconst_1).trans ?_
  refine (rn_ic_ge d_X_nights_2 (t := 12) (by decide)).trans (zif ?_ ?_)
  · refine (rn_ld d_X_nights_12 rfl rfl rfl rfl).trans ?_
    refine (rn_gr d_X_nights_13 f_3_10 zc_1 zr_1_0).trans ?_
    refine (rn_ld d_X_nights_16 rfl rfl rfl rfl).trans ?_
    refine (rn_vI d_X_nights_17 (zinv_v l_3_136 (by decide) (Nat.le_of_ble_eq_true rfl) rfl rfl zc_2 (Nat.le_of_ble_eq_true rfl)) (Nat.le_of_ble_eq_true rfl) (Or.inr rfl)).trans (zbI_congr fun v2 h1 => ?_)
    refine (rn_if_ne d_X_nights_20 (t := 30) (by decide)).trans (zif ?_ ?_)
    · refine (rn_ld d_X_nights_23 rfl rfl rfl rfl).trans ?_
      refine (rn_push d_X_nights_24 zcs_bipush_m6).trans ?_
      refine (rn_vI d_X_nights_26 (zinv_v l_3_55 (by decide) (Nat.le_of_ble_eq_true rfl) rfl rfl zc_1 (Nat.le_of_ble_eq_true rfl)) (Nat.le_of_ble_eq_true rfl) (Or.inl rfl)).trans (zbI_congr fun v4 h3 => ?_)
      exact rn_ri d_X_nights_29 rfl
    · refine (rn_ld d_X_nights_30 rfl rfl rfl rfl).trans ?_
      refine (rn_gr d_X_nights_31 f_3_33 zc_1 zr_1_5).trans ?_
      refine (rn_ld d_X_nights_34 rfl rfl rfl rfl).trans ?_
      refine (rn_gr d_X_nights_35 f_3_10 zc_1 zr_1_0).trans ?_
      refine (rn_vV d_X_nights_38 (zinv_v l_3_126 (by decide) (Nat.le_of_ble_eq_true rfl) rfl rfl zc_21 (Nat.le_of_ble_eq_true rfl)) (Nat.le_of_ble_eq_true rfl) rfl).trans (zbV_congr fun h5 => ?_)
      refine (rn_ld d_X_nights_41 rfl rfl rfl rfl).trans ?_
      refine (rn_gr d_X_nights_42 f_3_10 zc_1 zr_1_0).trans ?_
      refine (rn_ld d_X_nights_45 rfl rfl rfl rfl).trans ?_
      refine (rn_vV d_X_nights_46 (zinv_v l_3_139 (by decide) (Nat.le_of_ble_eq_true rfl) rfl rfl zc_2 (Nat.le_of_ble_eq_true rfl)) (Nat.le_of_ble_eq_true rfl) rfl).trans (zbV_congr fun h6 => ?_)
      refine (rn_ld d_X_nights_49 rfl rfl rfl rfl).trans ?_
      refine (rn_gr d_X_nights_50 f_3_10 zc_1 zr_1_0).trans ?_
      refine (rn_vI d_X_nights_53 (zinv_v l_3_143 (by decide) (Nat.le_of_ble_eq_true rfl) rfl rfl zc_2 (Nat.le_of_ble_eq_true rfl)) (Nat.le_of_ble_eq_true rfl) (Or.inl rfl)).trans (zbI_congr fun v8 h7 => ?_)
      exact rn_ri d_X_nights_56 rfl
  · refine (rn_ld d_X_nights_5 rfl rfl rfl rfl).trans ?_
    refine (rn_push d_X_nights_6 zcs_bipush_m4).trans ?_
    refine (rn_vI d_X_nights_8 (zinv_v l_3_55 (by decide) (Nat.le_of_ble_eq_true rfl) rfl rfl zc_1 (Nat.le_of_ble_eq_true rfl)) (Nat.le_of_ble_eq_true rfl) (Or.inl rfl)).trans (zbI_congr fun v10 h9 => ?_)
    exact rn_ri d_X_nights_11 rfl
theorem e_X_back {X : zX} {w : Nat} {h : zH} (Hw : isH w) (PW : zcf X m_P_giveBack [.ref 21] h = some (some (.ref w), h)) : zcf X m_X_back [.ref 1] h = (if 1 ≤ (h.1 21 1) then (zbV (zcf X m_H_become [.ref 2, .ref w] h) fun h2 => (some (some (.int (h2.1 21 1)), h2))) else (zbI (zcf X m_X_refuse [.ref 1, .int (-3)] h) fun v4 h3 => (some (some (.int v4), h3)))) := by
  refine (zcf_run (Nat.le_of_ble_eq_true rfl)).trans ?_
  show zrn X 2 m_X_back 0 [some (.ref 1)] [] h = _
  refine (rn_ld d_X_back_0 rfl rfl rfl rfl).trans ?_
  refine (rn_gr d_X_back_1 f_3_33 zc_1 zr_1_5).trans ?_
  refine (rn_gi d_X_back_4 f_3_146 zc_21).trans ?_
  refine (rn_push d_X_back_7 zcs_iconst_1).trans ?_
  refine (rn_ic_ge d_X_back_8 (t := 18) (by decide)).trans (zif ?_ ?_)
  · refine (rn_ld d_X_back_18 rfl rfl rfl rfl).trans ?_
    refine (rn_gr d_X_back_19 f_3_10 zc_1 zr_1_0).trans ?_
    refine (rn_ld d_X_back_22 rfl rfl rfl rfl).trans ?_
    refine (rn_gr d_X_back_23 f_3_33 zc_1 zr_1_5).trans ?_
    refine (rn_vR d_X_back_26 (zinv_v l_3_147 (by decide) (Nat.le_of_ble_eq_true rfl) rfl rfl zc_21 (Nat.le_of_ble_eq_true rfl)) (Nat.le_of_ble_eq_true rfl) rfl).trans ?_
    refine (congrArg (fun o => zbR o _) PW).trans ?_
    refine zbR_some.trans ?_
    refine (rn_vV d_X_back_29 (zinv_v l_3_69 (by decide) (Nat.le_of_ble_eq_true rfl) rfl rfl zc_2 (Nat.le_of_ble_eq_true rfl)) (Nat.le_of_ble_eq_true rfl) rfl).trans (zbV_congr fun h2 => ?_)
    refine (rn_ld d_X_back_32 rfl rfl rfl rfl).trans ?_
    refine (rn_gr d_X_back_33 f_3_33 zc_1 zr_1_5).trans ?_
    refine (rn_gi d_X_back_36 f_3_146 zc_21).trans ?_
    exact rn_ri d_X_back_39 rfl
  · refine (rn_ld d_X_back_11 rfl rfl rfl rfl).trans ?_
    refine (rn_push d_X_back_12 zcs_bipush_m3).trans ?_
    refine (rn_vI d_X_back_14 (zinv_v l_3_55 (by decide) (Nat.le_of_ble_eq_true rfl) rfl rfl zc_1 (Nat.le_of_ble_eq_true rfl)) (Nat.le_of_ble_eq_true rfl) (Or.inl rfl)).trans (zbI_congr fun v4 h3 => ?_)
    exact rn_ri d_X_back_17 rfl
theorem e_X_behind {X : zX} {x1 : Int32} {x2 : Int32} {x3 : Int32} {h : zH} : zcf X m_X_behind [.ref 1, .int x1, .int x2, .int x3] h = (zbI (zcf X m_X_wrongNights [.ref 1, .int x1, .int x2] h) fun v2 h1 => (if v2 = 0 then (if x3 < 0 then (zbI (zcf X m_X_refuse [.ref 1, .int (-2)] h1) fun v4 h3 => (some (some (.int v4), h3))) else (if x3 ≤ 5 then (zbV (zcf X m_X_lookAhead [.ref 1, .int x2] h1) fun h5 => (if x3 = 0 then (zbI (zcf X m_H_cellOf [.ref 8, .int x1] h5) fun v8 h7 => (some (some (.int v8), h7))) else (if x3 = 1 then (zbI (zcf X m_H_facesOf [.ref 8, .int x1] h5) fun v11 h10 => (some (some (.int v11), h10))) else (if x3 = 2 then (zbI (zcf X m_H_startsOf [.ref 8, .int x1] h5) fun v14 h13 => (some (some (.int v14), h13))) else (if x3 = 3 then (zbI (zcf X m_H_ahead [.ref 8, .int x1] h5) fun v17 h16 => (some (some (.int v17), h16))) else (if x3 = 4 then (zbI (zcf X m_H_inLens [.ref 8, .int x1] h5) fun v20 h19 => (some (some (.int v20), h19))) else (zbI (zcf X m_H_watchers [.ref 8, .int x1] h5) fun v22 h21 => (some (some (.int v22), h21))))))))) else (zbI (zcf X m_X_refuse [.ref 1, .int (-2)] h1) fun v24 h23 => (some (some (.int v24), h23))))) else (zbI (zcf X m_X_refuse [.ref 1, .int v2] h1) fun v26 h25 => (some (some (.int v26), h25))))) := by
  refine (zcf_run (Nat.le_of_ble_eq_true rfl)).trans ?_
  show zrn X 6 m_X_behind 0 [some (.ref 1), some (.int x1), some (.int x2), some (.int x3), none] [] h = _
  refine (rn_ld d_X_behind_0 rfl rfl rfl rfl).trans ?_
  refine (rn_ld d_X_behind_1 rfl rfl rfl rfl).trans ?_
  refine (rn_ld d_X_behind_2 rfl rfl rfl rfl).trans ?_
  refine (rn_vI d_X_behind_3 (zinv_v l_3_151 (by decide) (Nat.le_of_ble_eq_true rfl) rfl rfl zc_1 (Nat.le_of_ble_eq_true rfl)) (Nat.le_of_ble_eq_true rfl) (Or.inl rfl)).trans (zbI_congr fun v2 h1 => ?_)
  refine (rn_st d_X_behind_6 rfl rfl rfl (by decide) rfl (Nat.le_of_ble_eq_true rfl) (ls' := [some (.ref 1), some (.int x1), some (.int x2), some (.int x3), some (.int v2)]) rfl).trans ?_
  refine (rn_ld d_X_behind_8 rfl rfl rfl rfl).trans ?_
  refine (rn_if_eq d_X_behind_10 (t := 20) (by decide)).trans (zif ?_ ?_)
  · refine (rn_ld d_X_behind_20 rfl rfl rfl rfl).trans ?_
    refine (rn_if_lt d_X_behind_21 (t := 29) (by decide)).trans (zif ?_ ?_)
    · refine (rn_ld d_X_behind_29 rfl rfl rfl rfl).trans ?_
      refine (rn_push d_X_behind_30 zcs_bipush_m2).trans ?_
      refine (rn_vI d_X_behind_32 (zinv_v l_3_55 (by decide) (Nat.le_of_ble_eq_true rfl) rfl rfl zc_1 (Nat.le_of_ble_eq_true rfl)) (Nat.le_of_ble_eq_true rfl) (Or.inl rfl)).trans (zbI_congr fun v4 h3 => ?_)
      exact rn_ri d_X_behind_35 rfl
    · refine (rn_ld d_X_behind_24 rfl rfl rfl rfl).trans ?_
      refine (rn_push d_X_behind_25 zcs_iconst_5).trans ?_
      refine (rn_ic_le d_X_behind_26 (t := 36) (by decide)).trans (zif ?_ ?_)
      · refine (rn_ld d_X_behind_36 rfl rfl rfl rfl).trans ?_
        refine (rn_ld d_X_behind_37 rfl rfl rfl rfl).trans ?_
        refine (rn_vV d_X_behind_38 (zinv_v l_3_155 (by decide) (Nat.le_of_ble_eq_true rfl) rfl rfl zc_1 (Nat.le_of_ble_eq_true rfl)) (Nat.le_of_ble_eq_true rfl) rfl).trans (zbV_congr fun h5 => ?_)
        refine (rn_ld d_X_behind_41 rfl rfl rfl rfl).trans ?_
        refine zite (fun q6 => ?_) (fun q6 => ?_)
        · refine (rn_tsw d_X_behind_42 (t := 76) (by rw [q6]; decide +kernel)).trans ?_
          refine (rn_ld d_X_behind_76 rfl rfl rfl rfl).trans ?_
          refine (rn_gr d_X_behind_77 f_3_16 zc_1 zr_1_1).trans ?_
          refine (rn_ld d_X_behind_80 rfl rfl rfl rfl).trans ?_
          refine (rn_vI d_X_behind_81 (zinv_v l_3_94 (by decide) (Nat.le_of_ble_eq_true rfl) rfl rfl zc_8 (Nat.le_of_ble_eq_true rfl)) (Nat.le_of_ble_eq_true rfl) (Or.inl rfl)).trans (zbI_congr fun v8 h7 => ?_)
          exact rn_ri d_X_behind_84 rfl
        · refine zite (fun q9 => ?_) (fun q9 => ?_)
          · refine (rn_tsw d_X_behind_42 (t := 85) (by rw [q9]; decide +kernel)).trans ?_
            refine (rn_ld d_X_behind_85 rfl rfl rfl rfl).trans ?_
            refine (rn_gr d_X_behind_86 f_3_16 zc_1 zr_1_1).trans ?_
            refine (rn_ld d_X_behind_89 rfl rfl rfl rfl).trans ?_
            refine (rn_vI d_X_behind_90 (zinv_v l_3_97 (by decide) (Nat.le_of_ble_eq_true rfl) rfl rfl zc_8 (Nat.le_of_ble_eq_true rfl)) (Nat.le_of_ble_eq_true rfl) (Or.inl rfl)).trans (zbI_congr fun v11 h10 => ?_)
            exact rn_ri d_X_behind_93 rfl
          · refine zite (fun q12 => ?_) (fun q12 => ?_)
            · refine (rn_tsw d_X_behind_42 (t := 94) (by rw [q12]; decide +kernel)).trans ?_
              refine (rn_ld d_X_behind_94 rfl rfl rfl rfl).trans ?_
              refine (rn_gr d_X_behind_95 f_3_16 zc_1 zr_1_1).trans ?_
              refine (rn_ld d_X_behind_98 rfl rfl rfl rfl).trans ?_
              refine (rn_vI d_X_behind_99 (zinv_v l_3_100 (by decide) (Nat.le_of_ble_eq_true rfl) rfl rfl zc_8 (Nat.le_of_ble_eq_true rfl)) (Nat.le_of_ble_eq_true rfl) (Or.inl rfl)).trans (zbI_congr fun v14 h13 => ?_)
              exact rn_ri d_X_behind_102 rfl
            · refine zite (fun q15 => ?_) (fun q15 => ?_)
              · refine (rn_tsw d_X_behind_42 (t := 103) (by rw [q15]; decide +kernel)).trans ?_
                refine (rn_ld d_X_behind_103 rfl rfl rfl rfl).trans ?_
                refine (rn_gr d_X_behind_104 f_3_16 zc_1 zr_1_1).trans ?_
                refine (rn_ld d_X_behind_107 rfl rfl rfl rfl).trans ?_
                refine (rn_vI d_X_behind_108 (zinv_v l_3_158 (by decide) (Nat.le_of_ble_eq_true rfl) rfl rfl zc_8 (Nat.le_of_ble_eq_true rfl)) (Nat.le_of_ble_eq_true rfl) (Or.inl rfl)).trans (zbI_congr fun v17 h16 => ?_)
                exact rn_ri d_X_behind_111 rfl
              · refine zite (fun q18 => ?_) (fun q18 => ?_)
                · refine (rn_tsw d_X_behind_42 (t := 112) (by rw [q18]; decide +kernel)).trans ?_
                  refine (rn_ld d_X_behind_112 rfl rfl rfl rfl).trans ?_
                  refine (rn_gr d_X_behind_113 f_3_16 zc_1 zr_1_1).trans ?_
                  refine (rn_ld d_X_behind_116 rfl rfl rfl rfl).trans ?_
                  refine (rn_vI d_X_behind_117 (zinv_v l_3_161 (by decide) (Nat.le_of_ble_eq_true rfl) rfl rfl zc_8 (Nat.le_of_ble_eq_true rfl)) (Nat.le_of_ble_eq_true rfl) (Or.inl rfl)).trans (zbI_congr fun v20 h19 => ?_)
                  exact rn_ri d_X_behind_120 rfl
                · refine (rn_tsw d_X_behind_42 (t := 121) (zsw_out (by have z0 := lv_neT q6 (a := 0) rfl; have z1 := lv_neT q9 (a := 1) rfl; have z2 := lv_neT q12 (a := 2) rfl; have z3 := lv_neT q15 (a := 3) rfl; have z4 := lv_neT q18 (a := 4) rfl; omega) (by decide))).trans ?_
                  refine (rn_ld d_X_behind_121 rfl rfl rfl rfl).trans ?_
                  refine (rn_gr d_X_behind_122 f_3_16 zc_1 zr_1_1).trans ?_
                  refine (rn_ld d_X_behind_125 rfl rfl rfl rfl).trans ?_
                  refine (rn_vI d_X_behind_126 (zinv_v l_3_164 (by decide) (Nat.le_of_ble_eq_true rfl) rfl rfl zc_8 (Nat.le_of_ble_eq_true rfl)) (Nat.le_of_ble_eq_true rfl) (Or.inl rfl)).trans (zbI_congr fun v22 h21 => ?_)
                  exact rn_ri d_X_behind_129 rfl
      · refine (rn_ld d_X_behind_29 rfl rfl rfl rfl).trans ?_
        refine (rn_push d_X_behind_30 zcs_bipush_m2).trans ?_
        refine (rn_vI d_X_behind_32 (zinv_v l_3_55 (by decide) (Nat.le_of_ble_eq_true rfl) rfl rfl zc_1 (Nat.le_of_ble_eq_true rfl)) (Nat.le_of_ble_eq_true rfl) (Or.inl rfl)).trans (zbI_congr fun v24 h23 => ?_)
        exact rn_ri d_X_behind_35 rfl
  · refine (rn_ld d_X_behind_13 rfl rfl rfl rfl).trans ?_
    refine (rn_ld d_X_behind_14 rfl rfl rfl rfl).trans ?_
    refine (rn_vI d_X_behind_16 (zinv_v l_3_55 (by decide) (Nat.le_of_ble_eq_true rfl) rfl rfl zc_1 (Nat.le_of_ble_eq_true rfl)) (Nat.le_of_ble_eq_true rfl) (Or.inl rfl)).trans (zbI_congr fun v26 h25 => ?_)
    exact rn_ri d_X_behind_19 rfl
theorem e_X_wrongNights {X : zX} {x1 : Int32} {x2 : Int32} {h : zH} : zcf X m_X_wrongNights [.ref 1, .int x1, .int x2] h = (zbI (zcf X m_H_has [.ref 2, .int x1] h) fun v2 h1 => (if v2 = 0 then (some (some (.int (-1)), h1)) else (if 0 ≤ x2 then (if x2 ≤ 60 then (some (some (.int 0), h1)) else (some (some (.int (-6)), h1))) else (some (some (.int (-4)), h1))))) := by
  refine (zcf_run (Nat.le_of_ble_eq_true rfl)).trans ?_
  show zrn X 1 m_X_wrongNights 0 [some (.ref 1), some (.int x1), some (.int x2)] [] h = _
  refine (rn_ld d_X_wrongNights_0 rfl rfl rfl rfl).trans ?_
  refine (rn_gr d_X_wrongNights_1 f_3_10 zc_1 zr_1_0).trans ?_
  refine (rn_ld d_X_wrongNights_4 rfl rfl rfl rfl).trans ?_
  refine (rn_vI d_X_wrongNights_5 (zinv_v l_3_85 (by decide) (Nat.le_of_ble_eq_true rfl) rfl rfl zc_2 (Nat.le_of_ble_eq_true rfl)) (Nat.le_of_ble_eq_true rfl) (Or.inr rfl)).trans (zbI_congr fun v2 h1 => ?_)
  refine (rn_if_ne d_X_wrongNights_8 (t := 13) (by decide)).trans (zif ?_ ?_)
  · refine (rn_push d_X_wrongNights_11 zcs_iconst_m1).trans ?_
    exact rn_ri d_X_wrongNights_12 rfl
  · refine (rn_ld d_X_wrongNights_13 rfl rfl rfl rfl).trans ?_
    refine (rn_if_ge d_X_wrongNights_14 (t := 20) (by decide)).trans (zif ?_ ?_)
    · refine (rn_ld d_X_wrongNights_20 rfl rfl rfl rfl).trans ?_
      refine (rn_push d_X_wrongNights_21 zcs_bipush_60).trans ?_
      refine (rn_ic_le d_X_wrongNights_23 (t := 31) (by decide)).trans (zif ?_ ?_)
      · refine (rn_push d_X_wrongNights_31 zcs_iconst_0).trans ?_
        exact rn_ri d_X_wrongNights_32 rfl
      · refine (rn_push d_X_wrongNights_26 zcs_bipush_m6).trans ?_
        refine (rn_goto d_X_wrongNights_28 (t := 32) (by decide)).trans ?_
        exact rn_ri d_X_wrongNights_32 rfl
    · refine (rn_push d_X_wrongNights_17 zcs_bipush_m4).trans ?_
      exact rn_ri d_X_wrongNights_19 rfl
theorem b_X_lookAhead_13 {X : zX} {x1 : Int32} {x2 : Int32} {h : zH} : zrn X 5 m_X_lookAhead 13 [some (.ref 1), some (.int x1), some (.int x2)] [] h = (if x1 ≤ x2 then (some (none, h)) else (zbV (zcf X m_H_nightWithout [.ref 8, .int (-9)] h) fun h1 => zrn X 5 m_X_lookAhead 13 [some (.ref 1), some (.int x1), some (.int (x2 + 1))] [] h1)) := by
  refine (rn_ld d_X_lookAhead_13 rfl rfl rfl rfl).trans ?_
  refine (rn_ld d_X_lookAhead_14 rfl rfl rfl rfl).trans ?_
  refine (rn_ic_ge d_X_lookAhead_15 (t := 33) (by decide)).trans (zif ?_ ?_)
  · exact rn_rv d_X_lookAhead_33 rfl
  · refine (rn_ld d_X_lookAhead_18 rfl rfl rfl rfl).trans ?_
    refine (rn_gr d_X_lookAhead_19 f_3_16 zc_1 zr_1_1).trans ?_
    refine (rn_push d_X_lookAhead_22 zcs_bipush_m9).trans ?_
    refine (rn_vV d_X_lookAhead_24 (zinv_v l_3_171 (by decide) (Nat.le_of_ble_eq_true rfl) rfl rfl zc_8 (Nat.le_of_ble_eq_true rfl)) (Nat.le_of_ble_eq_true rfl) rfl).trans (zbV_congr fun h1 => ?_)
    refine (rn_inc d_X_lookAhead_27 rfl (c := 1) (by decide) (ls' := [some (.ref 1), some (.int x1), some (.int (x2 + 1))]) rfl).trans ?_
    refine (rn_goto d_X_lookAhead_30 (t := 13) (by decide)).trans ?_
    rfl
theorem e_X_lookAhead {X : zX} {x1 : Int32} {h : zH} : zcf X m_X_lookAhead [.ref 1, .int x1] h = (zbV (zcf X m_H_become [.ref 8, .ref 2] h) fun h1 => zrn X 5 m_X_lookAhead 13 [some (.ref 1), some (.int x1), some (.int 0)] [] h1) := by
  refine (zcf_run (Nat.le_of_ble_eq_true rfl)).trans ?_
  show zrn X 5 m_X_lookAhead 0 [some (.ref 1), some (.int x1), none] [] h = _
  refine (rn_ld d_X_lookAhead_0 rfl rfl rfl rfl).trans ?_
  refine (rn_gr d_X_lookAhead_1 f_3_16 zc_1 zr_1_1).trans ?_
  refine (rn_ld d_X_lookAhead_4 rfl rfl rfl rfl).trans ?_
  refine (rn_gr d_X_lookAhead_5 f_3_10 zc_1 zr_1_0).trans ?_
  refine (rn_vV d_X_lookAhead_8 (zinv_v l_3_69 (by decide) (Nat.le_of_ble_eq_true rfl) rfl rfl zc_8 (Nat.le_of_ble_eq_true rfl)) (Nat.le_of_ble_eq_true rfl) rfl).trans (zbV_congr fun h1 => ?_)
  refine (rn_push d_X_lookAhead_11 zcs_iconst_0).trans ?_
  refine (rn_st d_X_lookAhead_12 rfl rfl rfl (by decide) rfl (Nat.le_of_ble_eq_true rfl) (ls' := [some (.ref 1), some (.int x1), some (.int 0)]) rfl).trans ?_
  rfl
theorem e_X_allStarts {X : zX} {x1 : Int32} {h : zH} : zcf X m_X_allStarts [.ref 1, .int x1] h = (if 0 ≤ x1 then (if x1 ≤ 60 then (zbV (zcf X m_X_lookAhead [.ref 1, .int x1] h) fun h1 => (zbI (zcf X m_H_startsTogether [.ref 8] h1) fun v3 h2 => (some (some (.int v3), h2)))) else (zbI (zcf X m_X_refuse [.ref 1, .int (-6)] h) fun v5 h4 => (some (some (.int v5), h4)))) else (zbI (zcf X m_X_refuse [.ref 1, .int (-4)] h) fun v7 h6 => (some (some (.int v7), h6)))) := by
  refine (zcf_run (Nat.le_of_ble_eq_true rfl)).trans ?_
  show zrn X 6 m_X_allStarts 0 [some (.ref 1), some (.int x1)] [] h = _
  refine (rn_ld d_X_allStarts_0 rfl rfl rfl rfl).trans ?_
  refine (rn_if_ge d_X_allStarts_1 (t := 11) (by decide)).trans (zif ?_ ?_)
  · refine (rn_ld d_X_allStarts_11 rfl rfl rfl rfl).trans ?_
    refine (rn_push d_X_allStarts_12 zcs_bipush_60).trans ?_
    refine (rn_ic_le d_X_allStarts_14 (t := 24) (by decide)).trans (zif ?_ ?_)
    · refine (rn_ld d_X_allStarts_24 rfl rfl rfl rfl).trans ?_
      refine (rn_ld d_X_allStarts_25 rfl rfl rfl rfl).trans ?_
      refine (rn_vV d_X_allStarts_26 (zinv_v l_3_155 (by decide) (Nat.le_of_ble_eq_true rfl) rfl rfl zc_1 (Nat.le_of_ble_eq_true rfl)) (Nat.le_of_ble_eq_true rfl) rfl).trans (zbV_congr fun h1 => ?_)
      refine (rn_ld d_X_allStarts_29 rfl rfl rfl rfl).trans ?_
      refine (rn_gr d_X_allStarts_30 f_3_16 zc_1 zr_1_1).trans ?_
      refine (rn_vI d_X_allStarts_33 (zinv_v l_3_143 (by decide) (Nat.le_of_ble_eq_true rfl) rfl rfl zc_8 (Nat.le_of_ble_eq_true rfl)) (Nat.le_of_ble_eq_true rfl) (Or.inl rfl)).trans (zbI_congr fun v3 h2 => ?_)
      exact rn_ri d_X_allStarts_36 rfl
    · refine (rn_ld d_X_allStarts_17 rfl rfl rfl rfl).trans ?_
      refine (rn_push d_X_allStarts_18 zcs_bipush_m6).trans ?_
      refine (rn_vI d_X_allStarts_20 (zinv_v l_3_55 (by decide) (Nat.le_of_ble_eq_true rfl) rfl rfl zc_1 (Nat.le_of_ble_eq_true rfl)) (Nat.le_of_ble_eq_true rfl) (Or.inl rfl)).trans (zbI_congr fun v5 h4 => ?_)
      exact rn_ri d_X_allStarts_23 rfl
  · refine (rn_ld d_X_allStarts_4 rfl rfl rfl rfl).trans ?_
    refine (rn_push d_X_allStarts_5 zcs_bipush_m4).trans ?_
    refine (rn_vI d_X_allStarts_7 (zinv_v l_3_55 (by decide) (Nat.le_of_ble_eq_true rfl) rfl rfl zc_1 (Nat.le_of_ble_eq_true rfl)) (Nat.le_of_ble_eq_true rfl) (Or.inl rfl)).trans (zbI_congr fun v7 h6 => ?_)
    exact rn_ri d_X_allStarts_10 rfl
theorem b_X_first_32 {X : zX} {x1 : Int32} {x2 : Int32} {x3 : Int32} {x4 : Int32} {g5 : Option Value} {h : zH} : zrn X 5 m_X_first 32 [some (.ref 1), some (.int x1), some (.int x2), some (.int x3), some (.int x4), g5] [] h = (if 60 < x4 then (some (some (.int (-9)), h)) else (if x2 = 0 then (zbI (zcf X m_H_watchers [.ref 8, .int x1] h) fun v2 h1 => (if (if v2 = 0 then (0 : Int32) else 1) = 0 then (zbV (zcf X m_H_nightWithout [.ref 8, .int (-9)] h1) fun h4 => zrn X 5 m_X_first 32 [some (.ref 1), some (.int x1), some (.int x2), some (.int x3), some (.int (x4 + 1)), some (.int (if v2 = 0 then (0 : Int32) else 1))] [] h4) else (some (some (.int x4), h1)))) else (zbI (zcf X m_H_inLens [.ref 8, .int x1] h) fun v6 h5 => (if (if v6 = (-9) then (0 : Int32) else 1) = 0 then (zbV (zcf X m_H_nightWithout [.ref 8, .int (-9)] h5) fun h8 => zrn X 5 m_X_first 32 [some (.ref 1), some (.int x1), some (.int x2), some (.int x3), some (.int (x4 + 1)), some (.int (if v6 = (-9) then (0 : Int32) else 1))] [] h8) else (some (some (.int x4), h5)))))) := by
  refine (rn_ld d_X_first_32 rfl rfl rfl rfl).trans ?_
  refine (rn_push d_X_first_34 zcs_bipush_60).trans ?_
  refine (rn_ic_gt d_X_first_36 (t := 105) (by decide)).trans (zif ?_ ?_)
  · refine (rn_push d_X_first_105 zcs_bipush_m9).trans ?_
    exact rn_ri d_X_first_107 rfl
  · refine (rn_ld d_X_first_39 rfl rfl rfl rfl).trans ?_
    refine (rn_if_ne d_X_first_40 (t := 62) (by decide)).trans (zif ?_ ?_)
    · refine (rn_ld d_X_first_43 rfl rfl rfl rfl).trans ?_
      refine (rn_gr d_X_first_44 f_3_16 zc_1 zr_1_1).trans ?_
      refine (rn_ld d_X_first_47 rfl rfl rfl rfl).trans ?_
      refine (rn_vI d_X_first_48 (zinv_v l_3_164 (by decide) (Nat.le_of_ble_eq_true rfl) rfl rfl zc_8 (Nat.le_of_ble_eq_true rfl)) (Nat.le_of_ble_eq_true rfl) (Or.inl rfl)).trans (zbI_congr fun v2 h1 => ?_)
      refine Eq.trans (b := zrn X 5 m_X_first 80 [some (.ref 1), some (.int x1), some (.int x2), some (.int x3), some (.int x4), g5] [.int (if v2 = 0 then (0 : Int32) else 1)] h1) ?_ ?_
      · refine (rn_if_eq d_X_first_51 (t := 58) (by decide)).trans ?_
        by_cases q3 : v2 = 0
        · simp only [if_pos q3]
          refine (rn_push d_X_first_58 zcs_iconst_0).trans ?_
          refine (rn_goto d_X_first_59 (t := 80) (by decide)).trans ?_
          all_goals rfl
        · simp only [if_neg q3]
          refine (rn_push d_X_first_54 zcs_iconst_1).trans ?_
          refine (rn_goto d_X_first_55 (t := 80) (by decide)).trans ?_
          all_goals rfl
      refine (rn_st d_X_first_80 rfl rfl rfl (by decide) rfl (Nat.le_of_ble_eq_true rfl) (ls' := [some (.ref 1), some (.int x1), some (.int x2), some (.int x3), some (.int x4), some (.int (if v2 = 0 then (0 : Int32) else 1))]) rfl).trans ?_
      refine (rn_ld d_X_first_82 rfl rfl rfl rfl).trans ?_
      refine (rn_if_eq d_X_first_84 (t := 90) (by decide)).trans (zif ?_ ?_)
      · refine (rn_ld d_X_first_90 rfl rfl rfl rfl).trans ?_
        refine (rn_gr d_X_first_91 f_3_16 zc_1 zr_1_1).trans ?_
        refine (rn_push d_X_first_94 zcs_bipush_m9).trans ?_
        refine (rn_vV d_X_first_96 (zinv_v l_3_171 (by decide) (Nat.le_of_ble_eq_true rfl) rfl rfl zc_8 (Nat.le_of_ble_eq_true rfl)) (Nat.le_of_ble_eq_true rfl) rfl).trans (zbV_congr fun h4 => ?_)
        refine (rn_inc d_X_first_99 rfl (c := 1) (by decide) (ls' := [some (.ref 1), some (.int x1), some (.int x2), some (.int x3), some (.int (x4 + 1)), some (.int (if v2 = 0 then (0 : Int32) else 1))]) rfl).trans ?_
        refine (rn_goto d_X_first_102 (t := 32) (by decide)).trans ?_
        rfl
      · refine (rn_ld d_X_first_87 rfl rfl rfl rfl).trans ?_
        exact rn_ri d_X_first_89 rfl
    · refine (rn_ld d_X_first_62 rfl rfl rfl rfl).trans ?_
      refine (rn_gr d_X_first_63 f_3_16 zc_1 zr_1_1).trans ?_
      refine (rn_ld d_X_first_66 rfl rfl rfl rfl).trans ?_
      refine (rn_vI d_X_first_67 (zinv_v l_3_161 (by decide) (Nat.le_of_ble_eq_true rfl) rfl rfl zc_8 (Nat.le_of_ble_eq_true rfl)) (Nat.le_of_ble_eq_true rfl) (Or.inl rfl)).trans (zbI_congr fun v6 h5 => ?_)
      refine (rn_push d_X_first_70 zcs_bipush_m9).trans ?_
      refine Eq.trans (b := zrn X 5 m_X_first 80 [some (.ref 1), some (.int x1), some (.int x2), some (.int x3), some (.int x4), g5] [.int (if v6 = (-9) then (0 : Int32) else 1)] h5) ?_ ?_
      · refine (rn_ic_eq d_X_first_72 (t := 79) (by decide)).trans ?_
        by_cases q7 : v6 = (-9)
        · simp only [if_pos q7]
          refine (rn_push d_X_first_79 zcs_iconst_0).trans ?_
          all_goals rfl
        · simp only [if_neg q7]
          refine (rn_push d_X_first_75 zcs_iconst_1).trans ?_
          refine (rn_goto d_X_first_76 (t := 80) (by decide)).trans ?_
          all_goals rfl
      refine (rn_st d_X_first_80 rfl rfl rfl (by decide) rfl (Nat.le_of_ble_eq_true rfl) (ls' := [some (.ref 1), some (.int x1), some (.int x2), some (.int x3), some (.int x4), some (.int (if v6 = (-9) then (0 : Int32) else 1))]) rfl).trans ?_
      refine (rn_ld d_X_first_82 rfl rfl rfl rfl).trans ?_
      refine (rn_if_eq d_X_first_84 (t := 90) (by decide)).trans (zif ?_ ?_)
      · refine (rn_ld d_X_first_90 rfl rfl rfl rfl).trans ?_
        refine (rn_gr d_X_first_91 f_3_16 zc_1 zr_1_1).trans ?_
        refine (rn_push d_X_first_94 zcs_bipush_m9).trans ?_
        refine (rn_vV d_X_first_96 (zinv_v l_3_171 (by decide) (Nat.le_of_ble_eq_true rfl) rfl rfl zc_8 (Nat.le_of_ble_eq_true rfl)) (Nat.le_of_ble_eq_true rfl) rfl).trans (zbV_congr fun h8 => ?_)
        refine (rn_inc d_X_first_99 rfl (c := 1) (by decide) (ls' := [some (.ref 1), some (.int x1), some (.int x2), some (.int x3), some (.int (x4 + 1)), some (.int (if v6 = (-9) then (0 : Int32) else 1))]) rfl).trans ?_
        refine (rn_goto d_X_first_102 (t := 32) (by decide)).trans ?_
        rfl
      · refine (rn_ld d_X_first_87 rfl rfl rfl rfl).trans ?_
        exact rn_ri d_X_first_89 rfl
theorem e_X_first {X : zX} {x1 : Int32} {x2 : Int32} {h : zH} : zcf X m_X_first [.ref 1, .int x1, .int x2] h = (zbI (zcf X m_X_wrongWhat [.ref 1, .int x1, .int x2, .int 1] h) fun v2 h1 => (if v2 = 0 then (zbV (zcf X m_H_become [.ref 8, .ref 2] h1) fun h3 => zrn X 5 m_X_first 32 [some (.ref 1), some (.int x1), some (.int x2), some (.int v2), some (.int 0), none] [] h3) else (zbI (zcf X m_X_refuse [.ref 1, .int v2] h1) fun v5 h4 => (some (some (.int v5), h4))))) := by
  refine (zcf_run (Nat.le_of_ble_eq_true rfl)).trans ?_
  show zrn X 5 m_X_first 0 [some (.ref 1), some (.int x1), some (.int x2), none, none, none] [] h = _
  refine (rn_ld d_X_first_0 rfl rfl rfl rfl).trans ?_
  refine (rn_ld d_X_first_1 rfl rfl rfl rfl).trans ?_
  refine (rn_ld d_X_first_2 rfl rfl rfl rfl).trans ?_
  refine (rn_push d_X_first_3 zcs_iconst_1).trans ?_
  refine (rn_vI d_X_first_4 (zinv_v l_3_167 (by decide) (Nat.le_of_ble_eq_true rfl) rfl rfl zc_1 (Nat.le_of_ble_eq_true rfl)) (Nat.le_of_ble_eq_true rfl) (Or.inl rfl)).trans (zbI_congr fun v2 h1 => ?_)
  refine (rn_st d_X_first_7 rfl rfl rfl (by decide) rfl (Nat.le_of_ble_eq_true rfl) (ls' := [some (.ref 1), some (.int x1), some (.int x2), some (.int v2), none, none]) rfl).trans ?_
  refine (rn_ld d_X_first_8 rfl rfl rfl rfl).trans ?_
  refine (rn_if_eq d_X_first_9 (t := 18) (by decide)).trans (zif ?_ ?_)
  · refine (rn_ld d_X_first_18 rfl rfl rfl rfl).trans ?_
    refine (rn_gr d_X_first_19 f_3_16 zc_1 zr_1_1).trans ?_
    refine (rn_ld d_X_first_22 rfl rfl rfl rfl).trans ?_
    refine (rn_gr d_X_first_23 f_3_10 zc_1 zr_1_0).trans ?_
    refine (rn_vV d_X_first_26 (zinv_v l_3_69 (by decide) (Nat.le_of_ble_eq_true rfl) rfl rfl zc_8 (Nat.le_of_ble_eq_true rfl)) (Nat.le_of_ble_eq_true rfl) rfl).trans (zbV_congr fun h3 => ?_)
    refine (rn_push d_X_first_29 zcs_iconst_0).trans ?_
    refine (rn_st d_X_first_30 rfl rfl rfl (by decide) rfl (Nat.le_of_ble_eq_true rfl) (ls' := [some (.ref 1), some (.int x1), some (.int x2), some (.int v2), some (.int 0), none]) rfl).trans ?_
    rfl
  · refine (rn_ld d_X_first_12 rfl rfl rfl rfl).trans ?_
    refine (rn_ld d_X_first_13 rfl rfl rfl rfl).trans ?_
    refine (rn_vI d_X_first_14 (zinv_v l_3_55 (by decide) (Nat.le_of_ble_eq_true rfl) rfl rfl zc_1 (Nat.le_of_ble_eq_true rfl)) (Nat.le_of_ble_eq_true rfl) (Or.inl rfl)).trans (zbI_congr fun v5 h4 => ?_)
    exact rn_ri d_X_first_17 rfl
theorem e_X_wrongWhat {X : zX} {x1 : Int32} {x2 : Int32} {x3 : Int32} {h : zH} : zcf X m_X_wrongWhat [.ref 1, .int x1, .int x2, .int x3] h = (zbI (zcf X m_H_has [.ref 2, .int x1] h) fun v2 h1 => (if v2 = 0 then (some (some (.int (-1)), h1)) else (if x2 < 0 then (some (some (.int (-2)), h1)) else (if x2 ≤ x3 then (some (some (.int 0), h1)) else (some (some (.int (-2)), h1)))))) := by
  refine (zcf_run (Nat.le_of_ble_eq_true rfl)).trans ?_
  show zrn X 1 m_X_wrongWhat 0 [some (.ref 1), some (.int x1), some (.int x2), some (.int x3)] [] h = _
  refine (rn_ld d_X_wrongWhat_0 rfl rfl rfl rfl).trans ?_
  refine (rn_gr d_X_wrongWhat_1 f_3_10 zc_1 zr_1_0).trans ?_
  refine (rn_ld d_X_wrongWhat_4 rfl rfl rfl rfl).trans ?_
  refine (rn_vI d_X_wrongWhat_5 (zinv_v l_3_85 (by decide) (Nat.le_of_ble_eq_true rfl) rfl rfl zc_2 (Nat.le_of_ble_eq_true rfl)) (Nat.le_of_ble_eq_true rfl) (Or.inr rfl)).trans (zbI_congr fun v2 h1 => ?_)
  refine (rn_if_ne d_X_wrongWhat_8 (t := 13) (by decide)).trans (zif ?_ ?_)
  · refine (rn_push d_X_wrongWhat_11 zcs_iconst_m1).trans ?_
    exact rn_ri d_X_wrongWhat_12 rfl
  · refine (rn_ld d_X_wrongWhat_13 rfl rfl rfl rfl).trans ?_
    refine (rn_if_lt d_X_wrongWhat_14 (t := 22) (by decide)).trans (zif ?_ ?_)
    · refine (rn_push d_X_wrongWhat_22 zcs_bipush_m2).trans ?_
      refine (rn_goto d_X_wrongWhat_24 (t := 28) (by decide)).trans ?_
      exact rn_ri d_X_wrongWhat_28 rfl
    · refine (rn_ld d_X_wrongWhat_17 rfl rfl rfl rfl).trans ?_
      refine (rn_ld d_X_wrongWhat_18 rfl rfl rfl rfl).trans ?_
      refine (rn_ic_le d_X_wrongWhat_19 (t := 27) (by decide)).trans (zif ?_ ?_)
      · refine (rn_push d_X_wrongWhat_27 zcs_iconst_0).trans ?_
        exact rn_ri d_X_wrongWhat_28 rfl
      · refine (rn_push d_X_wrongWhat_22 zcs_bipush_m2).trans ?_
        refine (rn_goto d_X_wrongWhat_24 (t := 28) (by decide)).trans ?_
        exact rn_ri d_X_wrongWhat_28 rfl
theorem b_X_still_13 {X : zX} {x1 : Int32} {h : zH} : zrn X 5 m_X_still 13 [some (.ref 1), some (.int x1)] [] h = (if 60 < x1 then (some (some (.int (-9)), h)) else (zbV (zcf X m_H_nightWithout [.ref 8, .int (-9)] h) fun h1 => (if (h1.1 8 8) = 0 then (some (some (.int x1), h1)) else zrn X 5 m_X_still 13 [some (.ref 1), some (.int (x1 + 1))] [] h1))) := by
  refine (rn_ld d_X_still_13 rfl rfl rfl rfl).trans ?_
  refine (rn_push d_X_still_14 zcs_bipush_60).trans ?_
  refine (rn_ic_gt d_X_still_16 (t := 46) (by decide)).trans (zif ?_ ?_)
  · refine (rn_push d_X_still_46 zcs_bipush_m9).trans ?_
    exact rn_ri d_X_still_48 rfl
  · refine (rn_ld d_X_still_19 rfl rfl rfl rfl).trans ?_
    refine (rn_gr d_X_still_20 f_3_16 zc_1 zr_1_1).trans ?_
    refine (rn_push d_X_still_23 zcs_bipush_m9).trans ?_
    refine (rn_vV d_X_still_25 (zinv_v l_3_171 (by decide) (Nat.le_of_ble_eq_true rfl) rfl rfl zc_8 (Nat.le_of_ble_eq_true rfl)) (Nat.le_of_ble_eq_true rfl) rfl).trans (zbV_congr fun h1 => ?_)
    refine (rn_ld d_X_still_28 rfl rfl rfl rfl).trans ?_
    refine (rn_gr d_X_still_29 f_3_16 zc_1 zr_1_1).trans ?_
    refine (rn_gi d_X_still_32 f_3_174 zc_8).trans ?_
    refine (rn_if_ne d_X_still_35 (t := 40) (by decide)).trans (zif ?_ ?_)
    · refine (rn_ld d_X_still_38 rfl rfl rfl rfl).trans ?_
      exact rn_ri d_X_still_39 rfl
    · refine (rn_inc d_X_still_40 rfl (c := 1) (by decide) (ls' := [some (.ref 1), some (.int (x1 + 1))]) rfl).trans ?_
      refine (rn_goto d_X_still_43 (t := 13) (by decide)).trans ?_
      rfl
theorem e_X_still {X : zX} {h : zH} : zcf X m_X_still [.ref 1] h = (zbV (zcf X m_H_become [.ref 8, .ref 2] h) fun h1 => zrn X 5 m_X_still 13 [some (.ref 1), some (.int 0)] [] h1) := by
  refine (zcf_run (Nat.le_of_ble_eq_true rfl)).trans ?_
  show zrn X 5 m_X_still 0 [some (.ref 1), none] [] h = _
  refine (rn_ld d_X_still_0 rfl rfl rfl rfl).trans ?_
  refine (rn_gr d_X_still_1 f_3_16 zc_1 zr_1_1).trans ?_
  refine (rn_ld d_X_still_4 rfl rfl rfl rfl).trans ?_
  refine (rn_gr d_X_still_5 f_3_10 zc_1 zr_1_0).trans ?_
  refine (rn_vV d_X_still_8 (zinv_v l_3_69 (by decide) (Nat.le_of_ble_eq_true rfl) rfl rfl zc_8 (Nat.le_of_ble_eq_true rfl)) (Nat.le_of_ble_eq_true rfl) rfl).trans (zbV_congr fun h1 => ?_)
  refine (rn_push d_X_still_11 zcs_iconst_0).trans ?_
  refine (rn_st d_X_still_12 rfl rfl rfl (by decide) rfl (Nat.le_of_ble_eq_true rfl) (ls' := [some (.ref 1), some (.int 0)]) rfl).trans ?_
  rfl
theorem b_X_unseen_4 {X : zX} {x1 : Int32} {x2 : Int32} {h : zH} : zrn X 3 m_X_unseen 4 [some (.ref 1), some (.int x1), some (.int x2)] [] h = (if (h.1 2 5) ≤ x2 then (zbI (zcf X m_H_everybody [.ref 2] h) fun v2 h1 => (some (some (.int (v2 &&& (x1 ^^^ (-1)))), h1))) else (zbI (zcf X m_H_ahead [.ref 2, .int x2] h) fun v4 h3 => (zbI (zcf X m_X_bitOf [.int v4] h3) fun v6 h5 => (zbI (zcf X m_H_inLens [.ref 2, .int x2] h5) fun v8 h7 => (zbI (zcf X m_X_bitOf [.int v8] h7) fun v10 h9 => zrn X 3 m_X_unseen 4 [some (.ref 1), some (.int (x1 ||| (v6 ||| v10))), some (.int (x2 + 1))] [] h9))))) := by
  refine (rn_ld d_X_unseen_4 rfl rfl rfl rfl).trans ?_
  refine (rn_ld d_X_unseen_5 rfl rfl rfl rfl).trans ?_
  refine (rn_gr d_X_unseen_6 f_3_10 zc_1 zr_1_0).trans ?_
  refine (rn_gi d_X_unseen_9 f_3_112 zc_2).trans ?_
  refine (rn_ic_ge d_X_unseen_12 (t := 47) (by decide)).trans (zif ?_ ?_)
  · refine (rn_ld d_X_unseen_47 rfl rfl rfl rfl).trans ?_
    refine (rn_gr d_X_unseen_48 f_3_10 zc_1 zr_1_0).trans ?_
    refine (rn_vI d_X_unseen_51 (zinv_v l_3_180 (by decide) (Nat.le_of_ble_eq_true rfl) rfl rfl zc_2 (Nat.le_of_ble_eq_true rfl)) (Nat.le_of_ble_eq_true rfl) (Or.inl rfl)).trans (zbI_congr fun v2 h1 => ?_)
    refine (rn_ld d_X_unseen_54 rfl rfl rfl rfl).trans ?_
    refine (rn_push d_X_unseen_55 zcs_iconst_m1).trans ?_
    refine (rn_a2 d_X_unseen_56 rfl).trans ?_
    refine (rn_a2 d_X_unseen_57 rfl).trans ?_
    exact rn_ri d_X_unseen_58 rfl
  · refine (rn_ld d_X_unseen_15 rfl rfl rfl rfl).trans ?_
    refine (rn_ld d_X_unseen_16 rfl rfl rfl rfl).trans ?_
    refine (rn_gr d_X_unseen_17 f_3_10 zc_1 zr_1_0).trans ?_
    refine (rn_ld d_X_unseen_20 rfl rfl rfl rfl).trans ?_
    refine (rn_vI d_X_unseen_21 (zinv_v l_3_158 (by decide) (Nat.le_of_ble_eq_true rfl) rfl rfl zc_2 (Nat.le_of_ble_eq_true rfl)) (Nat.le_of_ble_eq_true rfl) (Or.inl rfl)).trans (zbI_congr fun v4 h3 => ?_)
    refine (rn_sI d_X_unseen_24 nb_3_177 (zinv_s l_3_177 (by decide) (Nat.le_of_ble_eq_true rfl) rfl rfl (Nat.le_of_ble_eq_true rfl)) (Nat.le_of_ble_eq_true rfl) (Or.inl rfl)).trans (zbI_congr fun v6 h5 => ?_)
    refine (rn_ld d_X_unseen_27 rfl rfl rfl rfl).trans ?_
    refine (rn_gr d_X_unseen_28 f_3_10 zc_1 zr_1_0).trans ?_
    refine (rn_ld d_X_unseen_31 rfl rfl rfl rfl).trans ?_
    refine (rn_vI d_X_unseen_32 (zinv_v l_3_161 (by decide) (Nat.le_of_ble_eq_true rfl) rfl rfl zc_2 (Nat.le_of_ble_eq_true rfl)) (Nat.le_of_ble_eq_true rfl) (Or.inl rfl)).trans (zbI_congr fun v8 h7 => ?_)
    refine (rn_sI d_X_unseen_35 nb_3_177 (zinv_s l_3_177 (by decide) (Nat.le_of_ble_eq_true rfl) rfl rfl (Nat.le_of_ble_eq_true rfl)) (Nat.le_of_ble_eq_true rfl) (Or.inl rfl)).trans (zbI_congr fun v10 h9 => ?_)
    refine (rn_a2 d_X_unseen_38 rfl).trans ?_
    refine (rn_a2 d_X_unseen_39 rfl).trans ?_
    refine (rn_st d_X_unseen_40 rfl rfl rfl (by decide) rfl (Nat.le_of_ble_eq_true rfl) (ls' := [some (.ref 1), some (.int (x1 ||| (v6 ||| v10))), some (.int x2)]) rfl).trans ?_
    refine (rn_inc d_X_unseen_41 rfl (c := 1) (by decide) (ls' := [some (.ref 1), some (.int (x1 ||| (v6 ||| v10))), some (.int (x2 + 1))]) rfl).trans ?_
    refine (rn_goto d_X_unseen_44 (t := 4) (by decide)).trans ?_
    rfl
theorem e_X_unseen {X : zX} {h : zH} : zcf X m_X_unseen [.ref 1] h = zrn X 3 m_X_unseen 4 [some (.ref 1), some (.int 0), some (.int 0)] [] h := by
  refine (zcf_run (Nat.le_of_ble_eq_true rfl)).trans ?_
  show zrn X 3 m_X_unseen 0 [some (.ref 1), none, none] [] h = _
  refine (rn_push d_X_unseen_0 zcs_iconst_0).trans ?_
  refine (rn_st d_X_unseen_1 rfl rfl rfl (by decide) rfl (Nat.le_of_ble_eq_true rfl) (ls' := [some (.ref 1), some (.int 0), none]) rfl).trans ?_
  refine (rn_push d_X_unseen_2 zcs_iconst_0).trans ?_
  refine (rn_st d_X_unseen_3 rfl rfl rfl (by decide) rfl (Nat.le_of_ble_eq_true rfl) (ls' := [some (.ref 1), some (.int 0), some (.int 0)]) rfl).trans ?_
  rfl
theorem e_X_chain {X : zX} {x1 : Int32} {x2 : Int32} {h : zH} : zcf X m_X_chain [.ref 1, .int x1, .int x2] h = (zbI (zcf X m_X_wrongWhat [.ref 1, .int x1, .int x2, .int 2] h) fun v2 h1 => (if v2 = 0 then (zbI (zcf X m_H_chainOf [.ref 2, .int x1, .int x2] h1) fun v4 h3 => (some (some (.int v4), h3))) else (zbI (zcf X m_X_refuse [.ref 1, .int v2] h1) fun v6 h5 => (some (some (.int v6), h5))))) := by
  refine (zcf_run (Nat.le_of_ble_eq_true rfl)).trans ?_
  show zrn X 4 m_X_chain 0 [some (.ref 1), some (.int x1), some (.int x2), none] [] h = _
  refine (rn_ld d_X_chain_0 rfl rfl rfl rfl).trans ?_
  refine (rn_ld d_X_chain_1 rfl rfl rfl rfl).trans ?_
  refine (rn_ld d_X_chain_2 rfl rfl rfl rfl).trans ?_
  refine (rn_push d_X_chain_3 zcs_iconst_2).trans ?_
  refine (rn_vI d_X_chain_4 (zinv_v l_3_167 (by decide) (Nat.le_of_ble_eq_true rfl) rfl rfl zc_1 (Nat.le_of_ble_eq_true rfl)) (Nat.le_of_ble_eq_true rfl) (Or.inl rfl)).trans (zbI_congr fun v2 h1 => ?_)
  refine (rn_st d_X_chain_7 rfl rfl rfl (by decide) rfl (Nat.le_of_ble_eq_true rfl) (ls' := [some (.ref 1), some (.int x1), some (.int x2), some (.int v2)]) rfl).trans ?_
  refine (rn_ld d_X_chain_8 rfl rfl rfl rfl).trans ?_
  refine (rn_if_eq d_X_chain_9 (t := 20) (by decide)).trans (zif ?_ ?_)
  · refine (rn_ld d_X_chain_20 rfl rfl rfl rfl).trans ?_
    refine (rn_gr d_X_chain_21 f_3_10 zc_1 zr_1_0).trans ?_
    refine (rn_ld d_X_chain_24 rfl rfl rfl rfl).trans ?_
    refine (rn_ld d_X_chain_25 rfl rfl rfl rfl).trans ?_
    refine (rn_vI d_X_chain_26 (zinv_v l_3_183 (by decide) (Nat.le_of_ble_eq_true rfl) rfl rfl zc_2 (Nat.le_of_ble_eq_true rfl)) (Nat.le_of_ble_eq_true rfl) (Or.inl rfl)).trans (zbI_congr fun v4 h3 => ?_)
    exact rn_ri d_X_chain_29 rfl
  · refine (rn_ld d_X_chain_12 rfl rfl rfl rfl).trans ?_
    refine (rn_ld d_X_chain_13 rfl rfl rfl rfl).trans ?_
    refine (rn_vI d_X_chain_14 (zinv_v l_3_55 (by decide) (Nat.le_of_ble_eq_true rfl) rfl rfl zc_1 (Nat.le_of_ble_eq_true rfl)) (Nat.le_of_ble_eq_true rfl) (Or.inl rfl)).trans (zbI_congr fun v6 h5 => ?_)
    refine (rn_goto d_X_chain_17 (t := 29) (by decide)).trans ?_
    exact rn_ri d_X_chain_29 rfl
theorem b_X_deepest_7 {X : zX} {x1 : Int32} {x2 : Int32} {x3 : Int32} {g4 : Option Value} {h : zH} : zrn X 4 m_X_deepest 7 [some (.ref 1), some (.int x1), some (.int x2), some (.int x3), g4] [] h = (if (h.1 2 5) ≤ x3 then (some (some (.int x1), h)) else (zbI (zcf X m_H_chainOf [.ref 2, .int x3, .int 0] h) fun v2 h1 => zrn X 4 m_X_deepest 7 [some (.ref 1), some (.int (if v2 ≤ x2 then x1 else x3)), some (.int (if v2 ≤ x2 then x2 else v2)), some (.int (x3 + 1)), some (.int v2)] [] h1)) := by
  refine (rn_ld d_X_deepest_7 rfl rfl rfl rfl).trans ?_
  refine (rn_ld d_X_deepest_8 rfl rfl rfl rfl).trans ?_
  refine (rn_gr d_X_deepest_9 f_3_10 zc_1 zr_1_0).trans ?_
  refine (rn_gi d_X_deepest_12 f_3_112 zc_2).trans ?_
  refine (rn_ic_ge d_X_deepest_15 (t := 46) (by decide)).trans (zif ?_ ?_)
  · refine (rn_ld d_X_deepest_46 rfl rfl rfl rfl).trans ?_
    exact rn_ri d_X_deepest_47 rfl
  · refine (rn_ld d_X_deepest_18 rfl rfl rfl rfl).trans ?_
    refine (rn_gr d_X_deepest_19 f_3_10 zc_1 zr_1_0).trans ?_
    refine (rn_ld d_X_deepest_22 rfl rfl rfl rfl).trans ?_
    refine (rn_push d_X_deepest_23 zcs_iconst_0).trans ?_
    refine (rn_vI d_X_deepest_24 (zinv_v l_3_183 (by decide) (Nat.le_of_ble_eq_true rfl) rfl rfl zc_2 (Nat.le_of_ble_eq_true rfl)) (Nat.le_of_ble_eq_true rfl) (Or.inl rfl)).trans (zbI_congr fun v2 h1 => ?_)
    refine (rn_st d_X_deepest_27 rfl rfl rfl (by decide) rfl (Nat.le_of_ble_eq_true rfl) (ls' := [some (.ref 1), some (.int x1), some (.int x2), some (.int x3), some (.int v2)]) rfl).trans ?_
    refine (rn_ld d_X_deepest_29 rfl rfl rfl rfl).trans ?_
    refine (rn_ld d_X_deepest_31 rfl rfl rfl rfl).trans ?_
    refine Eq.trans (b := zrn X 4 m_X_deepest 40 [some (.ref 1), some (.int (if v2 ≤ x2 then x1 else x3)), some (.int (if v2 ≤ x2 then x2 else v2)), some (.int x3), some (.int v2)] [] h1) ?_ ?_
    · refine (rn_ic_le d_X_deepest_32 (t := 40) (by decide)).trans ?_
      by_cases q3 : v2 ≤ x2
      · simp only [if_pos q3]
        all_goals rfl
      · simp only [if_neg q3]
        refine (rn_ld d_X_deepest_35 rfl rfl rfl rfl).trans ?_
        refine (rn_st d_X_deepest_37 rfl rfl rfl (by decide) rfl (Nat.le_of_ble_eq_true rfl) (ls' := [some (.ref 1), some (.int x1), some (.int v2), some (.int x3), some (.int v2)]) rfl).trans ?_
        refine (rn_ld d_X_deepest_38 rfl rfl rfl rfl).trans ?_
        refine (rn_st d_X_deepest_39 rfl rfl rfl (by decide) rfl (Nat.le_of_ble_eq_true rfl) (ls' := [some (.ref 1), some (.int x3), some (.int v2), some (.int x3), some (.int v2)]) rfl).trans ?_
        all_goals rfl
    refine (rn_inc d_X_deepest_40 rfl (c := 1) (by decide) (ls' := [some (.ref 1), some (.int (if v2 ≤ x2 then x1 else x3)), some (.int (if v2 ≤ x2 then x2 else v2)), some (.int (x3 + 1)), some (.int v2)]) rfl).trans ?_
    refine (rn_goto d_X_deepest_43 (t := 7) (by decide)).trans ?_
    rfl
theorem e_X_deepest {X : zX} {h : zH} : zcf X m_X_deepest [.ref 1] h = zrn X 4 m_X_deepest 7 [some (.ref 1), some (.int (-9)), some (.int 0), some (.int 0), none] [] h := by
  refine (zcf_run (Nat.le_of_ble_eq_true rfl)).trans ?_
  show zrn X 4 m_X_deepest 0 [some (.ref 1), none, none, none, none] [] h = _
  refine (rn_push d_X_deepest_0 zcs_bipush_m9).trans ?_
  refine (rn_st d_X_deepest_2 rfl rfl rfl (by decide) rfl (Nat.le_of_ble_eq_true rfl) (ls' := [some (.ref 1), some (.int (-9)), none, none, none]) rfl).trans ?_
  refine (rn_push d_X_deepest_3 zcs_iconst_0).trans ?_
  refine (rn_st d_X_deepest_4 rfl rfl rfl (by decide) rfl (Nat.le_of_ble_eq_true rfl) (ls' := [some (.ref 1), some (.int (-9)), some (.int 0), none, none]) rfl).trans ?_
  refine (rn_push d_X_deepest_5 zcs_iconst_0).trans ?_
  refine (rn_st d_X_deepest_6 rfl rfl rfl (by decide) rfl (Nat.le_of_ble_eq_true rfl) (ls' := [some (.ref 1), some (.int (-9)), some (.int 0), some (.int 0), none]) rfl).trans ?_
  rfl
theorem b_X_knows_49 {X : zX} {x1 : Int32} {x2 : Int32} {x3 : Int32} {x4 : Int32} {h : zH} : zrn X 4 m_X_knows 49 [some (.ref 1), some (.int x1), some (.int x2), some (.int x3), some (.int x4)] [] h = (if x2 ≤ x4 then (some (some (.int x3), h)) else (zbI (zcf X m_H_seenBy [.ref 2, .int x3] h) fun v2 h1 => zrn X 4 m_X_knows 49 [some (.ref 1), some (.int x1), some (.int x2), some (.int (x3 ||| v2)), some (.int (x4 + 1))] [] h1)) := by
  refine (rn_ld d_X_knows_49 rfl rfl rfl rfl).trans ?_
  refine (rn_ld d_X_knows_51 rfl rfl rfl rfl).trans ?_
  refine (rn_ic_ge d_X_knows_52 (t := 72) (by decide)).trans (zif ?_ ?_)
  · refine (rn_ld d_X_knows_72 rfl rfl rfl rfl).trans ?_
    exact rn_ri d_X_knows_73 rfl
  · refine (rn_ld d_X_knows_55 rfl rfl rfl rfl).trans ?_
    refine (rn_ld d_X_knows_56 rfl rfl rfl rfl).trans ?_
    refine (rn_gr d_X_knows_57 f_3_10 zc_1 zr_1_0).trans ?_
    refine (rn_ld d_X_knows_60 rfl rfl rfl rfl).trans ?_
    refine (rn_vI d_X_knows_61 (zinv_v l_3_186 (by decide) (Nat.le_of_ble_eq_true rfl) rfl rfl zc_2 (Nat.le_of_ble_eq_true rfl)) (Nat.le_of_ble_eq_true rfl) (Or.inl rfl)).trans (zbI_congr fun v2 h1 => ?_)
    refine (rn_a2 d_X_knows_64 rfl).trans ?_
    refine (rn_st d_X_knows_65 rfl rfl rfl (by decide) rfl (Nat.le_of_ble_eq_true rfl) (ls' := [some (.ref 1), some (.int x1), some (.int x2), some (.int (x3 ||| v2)), some (.int x4)]) rfl).trans ?_
    refine (rn_inc d_X_knows_66 rfl (c := 1) (by decide) (ls' := [some (.ref 1), some (.int x1), some (.int x2), some (.int (x3 ||| v2)), some (.int (x4 + 1))]) rfl).trans ?_
    refine (rn_goto d_X_knows_69 (t := 49) (by decide)).trans ?_
    rfl
theorem e_X_knows {X : zX} {x1 : Int32} {x2 : Int32} {h : zH} : zcf X m_X_knows [.ref 1, .int x1, .int x2] h = (zbI (zcf X m_H_has [.ref 2, .int x1] h) fun v2 h1 => (if v2 = 0 then (zbI (zcf X m_X_refuse [.ref 1, .int (-1)] h1) fun v4 h3 => (some (some (.int v4), h3))) else (if 0 ≤ x2 then (if x2 ≤ 6 then (zbI (zcf X m_X_bitOf [.int x1] h1) fun v6 h5 => zrn X 4 m_X_knows 49 [some (.ref 1), some (.int x1), some (.int x2), some (.int v6), some (.int 0)] [] h5) else (zbI (zcf X m_X_refuse [.ref 1, .int (-6)] h1) fun v8 h7 => (some (some (.int v8), h7)))) else (zbI (zcf X m_X_refuse [.ref 1, .int (-4)] h1) fun v10 h9 => (some (some (.int v10), h9)))))) := by
  refine (zcf_run (Nat.le_of_ble_eq_true rfl)).trans ?_
  show zrn X 4 m_X_knows 0 [some (.ref 1), some (.int x1), some (.int x2), none, none] [] h = _
  refine (rn_ld d_X_knows_0 rfl rfl rfl rfl).trans ?_
  refine (rn_gr d_X_knows_1 f_3_10 zc_1 zr_1_0).trans ?_
  refine (rn_ld d_X_knows_4 rfl rfl rfl rfl).trans ?_
  refine (rn_vI d_X_knows_5 (zinv_v l_3_85 (by decide) (Nat.le_of_ble_eq_true rfl) rfl rfl zc_2 (Nat.le_of_ble_eq_true rfl)) (Nat.le_of_ble_eq_true rfl) (Or.inr rfl)).trans (zbI_congr fun v2 h1 => ?_)
  refine (rn_if_ne d_X_knows_8 (t := 17) (by decide)).trans (zif ?_ ?_)
  · refine (rn_ld d_X_knows_11 rfl rfl rfl rfl).trans ?_
    refine (rn_push d_X_knows_12 zcs_iconst_m1).trans ?_
    refine (rn_vI d_X_knows_13 (zinv_v l_3_55 (by decide) (Nat.le_of_ble_eq_true rfl) rfl rfl zc_1 (Nat.le_of_ble_eq_true rfl)) (Nat.le_of_ble_eq_true rfl) (Or.inl rfl)).trans (zbI_congr fun v4 h3 => ?_)
    exact rn_ri d_X_knows_16 rfl
  · refine (rn_ld d_X_knows_17 rfl rfl rfl rfl).trans ?_
    refine (rn_if_ge d_X_knows_18 (t := 28) (by decide)).trans (zif ?_ ?_)
    · refine (rn_ld d_X_knows_28 rfl rfl rfl rfl).trans ?_
      refine (rn_push d_X_knows_29 zcs_bipush_6).trans ?_
      refine (rn_ic_le d_X_knows_31 (t := 41) (by decide)).trans (zif ?_ ?_)
      · refine (rn_ld d_X_knows_41 rfl rfl rfl rfl).trans ?_
        refine (rn_sI d_X_knows_42 nb_3_177 (zinv_s l_3_177 (by decide) (Nat.le_of_ble_eq_true rfl) rfl rfl (Nat.le_of_ble_eq_true rfl)) (Nat.le_of_ble_eq_true rfl) (Or.inl rfl)).trans (zbI_congr fun v6 h5 => ?_)
        refine (rn_st d_X_knows_45 rfl rfl rfl (by decide) rfl (Nat.le_of_ble_eq_true rfl) (ls' := [some (.ref 1), some (.int x1), some (.int x2), some (.int v6), none]) rfl).trans ?_
        refine (rn_push d_X_knows_46 zcs_iconst_0).trans ?_
        refine (rn_st d_X_knows_47 rfl rfl rfl (by decide) rfl (Nat.le_of_ble_eq_true rfl) (ls' := [some (.ref 1), some (.int x1), some (.int x2), some (.int v6), some (.int 0)]) rfl).trans ?_
        rfl
      · refine (rn_ld d_X_knows_34 rfl rfl rfl rfl).trans ?_
        refine (rn_push d_X_knows_35 zcs_bipush_m6).trans ?_
        refine (rn_vI d_X_knows_37 (zinv_v l_3_55 (by decide) (Nat.le_of_ble_eq_true rfl) rfl rfl zc_1 (Nat.le_of_ble_eq_true rfl)) (Nat.le_of_ble_eq_true rfl) (Or.inl rfl)).trans (zbI_congr fun v8 h7 => ?_)
        exact rn_ri d_X_knows_40 rfl
    · refine (rn_ld d_X_knows_21 rfl rfl rfl rfl).trans ?_
      refine (rn_push d_X_knows_22 zcs_bipush_m4).trans ?_
      refine (rn_vI d_X_knows_24 (zinv_v l_3_55 (by decide) (Nat.le_of_ble_eq_true rfl) rfl rfl zc_1 (Nat.le_of_ble_eq_true rfl)) (Nat.le_of_ble_eq_true rfl) (Or.inl rfl)).trans (zbI_congr fun v10 h9 => ?_)
      exact rn_ri d_X_knows_27 rfl
theorem b_X_safe_39 {X : zX} {x1 : Int32} {x2 : Int32} {x3 : Int32} {x4 : Int32} {x5 : Int32} {x6 : Int32} {h : zH} : zrn X 3 m_X_safe 39 [some (.ref 1), some (.int x1), some (.int x2), some (.int x3), some (.int x4), some (.int x5), some (.int x6)] [] h = (if 4 ≤ x6 then (if x2 = 0 then (some (some (.int x4), h)) else (some (some (.int x5), h))) else (zbV (zcf X m_H_face [.ref 8, .int x1, .int x6] h) fun h1 => (zbI (zcf X m_H_inLens [.ref 8, .int x1] h1) fun v3 h2 => (if v3 = (-9) then (zbI (zcf X m_X_bitOf [.int x6] h2) fun v5 h4 => (if x5 = (-9) then (zbI (zcf X m_H_ahead [.ref 8, .int x1] h4) fun v7 h6 => zrn X 3 m_X_safe 39 [some (.ref 1), some (.int x1), some (.int x2), some (.int x3), some (.int (x4 ||| v5)), some (.int (if v7 = (-9) then x5 else x6)), some (.int (x6 + 1))] [] h6) else zrn X 3 m_X_safe 39 [some (.ref 1), some (.int x1), some (.int x2), some (.int x3), some (.int (x4 ||| v5)), some (.int x5), some (.int (x6 + 1))] [] h4)) else zrn X 3 m_X_safe 39 [some (.ref 1), some (.int x1), some (.int x2), some (.int x3), some (.int x4), some (.int x5), some (.int (x6 + 1))] [] h2)))) := by
  refine (rn_ld d_X_safe_39 rfl rfl rfl rfl).trans ?_
  refine (rn_push d_X_safe_41 zcs_iconst_4).trans ?_
  refine (rn_ic_ge d_X_safe_42 (t := 113) (by decide)).trans (zif ?_ ?_)
  · refine (rn_ld d_X_safe_113 rfl rfl rfl rfl).trans ?_
    refine (rn_if_ne d_X_safe_114 (t := 122) (by decide)).trans (zif ?_ ?_)
    · refine (rn_ld d_X_safe_117 rfl rfl rfl rfl).trans ?_
      refine (rn_goto d_X_safe_119 (t := 124) (by decide)).trans ?_
      exact rn_ri d_X_safe_124 rfl
    · refine (rn_ld d_X_safe_122 rfl rfl rfl rfl).trans ?_
      exact rn_ri d_X_safe_124 rfl
  · refine (rn_ld d_X_safe_45 rfl rfl rfl rfl).trans ?_
    refine (rn_gr d_X_safe_46 f_3_16 zc_1 zr_1_1).trans ?_
    refine (rn_ld d_X_safe_49 rfl rfl rfl rfl).trans ?_
    refine (rn_ld d_X_safe_50 rfl rfl rfl rfl).trans ?_
    refine (rn_vV d_X_safe_52 (zinv_v l_3_129 (by decide) (Nat.le_of_ble_eq_true rfl) rfl rfl zc_8 (Nat.le_of_ble_eq_true rfl)) (Nat.le_of_ble_eq_true rfl) rfl).trans (zbV_congr fun h1 => ?_)
    refine (rn_ld d_X_safe_55 rfl rfl rfl rfl).trans ?_
    refine (rn_gr d_X_safe_56 f_3_16 zc_1 zr_1_1).trans ?_
    refine (rn_ld d_X_safe_59 rfl rfl rfl rfl).trans ?_
    refine (rn_vI d_X_safe_60 (zinv_v l_3_161 (by decide) (Nat.le_of_ble_eq_true rfl) rfl rfl zc_8 (Nat.le_of_ble_eq_true rfl)) (Nat.le_of_ble_eq_true rfl) (Or.inl rfl)).trans (zbI_congr fun v3 h2 => ?_)
    refine (rn_push d_X_safe_63 zcs_bipush_m9).trans ?_
    refine (rn_ic_ne d_X_safe_65 (t := 107) (by decide)).trans (zif ?_ ?_)
    · refine (rn_ld d_X_safe_68 rfl rfl rfl rfl).trans ?_
      refine (rn_ld d_X_safe_70 rfl rfl rfl rfl).trans ?_
      refine (rn_sI d_X_safe_72 nb_3_177 (zinv_s l_3_177 (by decide) (Nat.le_of_ble_eq_true rfl) rfl rfl (Nat.le_of_ble_eq_true rfl)) (Nat.le_of_ble_eq_true rfl) (Or.inl rfl)).trans (zbI_congr fun v5 h4 => ?_)
      refine (rn_a2 d_X_safe_75 rfl).trans ?_
      refine (rn_st d_X_safe_76 rfl rfl rfl (by decide) rfl (Nat.le_of_ble_eq_true rfl) (ls' := [some (.ref 1), some (.int x1), some (.int x2), some (.int x3), some (.int (x4 ||| v5)), some (.int x5), some (.int x6)]) rfl).trans ?_
      refine (rn_ld d_X_safe_78 rfl rfl rfl rfl).trans ?_
      refine (rn_push d_X_safe_80 zcs_bipush_m9).trans ?_
      refine (rn_ic_ne d_X_safe_82 (t := 103) (by decide)).trans (zif ?_ ?_)
      · refine (rn_ld d_X_safe_85 rfl rfl rfl rfl).trans ?_
        refine (rn_gr d_X_safe_86 f_3_16 zc_1 zr_1_1).trans ?_
        refine (rn_ld d_X_safe_89 rfl rfl rfl rfl).trans ?_
        refine (rn_vI d_X_safe_90 (zinv_v l_3_158 (by decide) (Nat.le_of_ble_eq_true rfl) rfl rfl zc_8 (Nat.le_of_ble_eq_true rfl)) (Nat.le_of_ble_eq_true rfl) (Or.inl rfl)).trans (zbI_congr fun v7 h6 => ?_)
        refine (rn_push d_X_safe_93 zcs_bipush_m9).trans ?_
        refine Eq.trans (b := zrn X 3 m_X_safe 105 [some (.ref 1), some (.int x1), some (.int x2), some (.int x3), some (.int (x4 ||| v5)), some (.int x5), some (.int x6)] [.int (if v7 = (-9) then x5 else x6)] h6) ?_ ?_
        · refine (rn_ic_eq d_X_safe_95 (t := 103) (by decide)).trans ?_
          by_cases q8 : v7 = (-9)
          · simp only [if_pos q8]
            refine (rn_ld d_X_safe_103 rfl rfl rfl rfl).trans ?_
            all_goals rfl
          · simp only [if_neg q8]
            refine (rn_ld d_X_safe_98 rfl rfl rfl rfl).trans ?_
            refine (rn_goto d_X_safe_100 (t := 105) (by decide)).trans ?_
            all_goals rfl
        refine (rn_st d_X_safe_105 rfl rfl rfl (by decide) rfl (Nat.le_of_ble_eq_true rfl) (ls' := [some (.ref 1), some (.int x1), some (.int x2), some (.int x3), some (.int (x4 ||| v5)), some (.int (if v7 = (-9) then x5 else x6)), some (.int x6)]) rfl).trans ?_
        refine (rn_inc d_X_safe_107 rfl (c := 1) (by decide) (ls' := [some (.ref 1), some (.int x1), some (.int x2), some (.int x3), some (.int (x4 ||| v5)), some (.int (if v7 = (-9) then x5 else x6)), some (.int (x6 + 1))]) rfl).trans ?_
        refine (rn_goto d_X_safe_110 (t := 39) (by decide)).trans ?_
        rfl
      · refine (rn_ld d_X_safe_103 rfl rfl rfl rfl).trans ?_
        refine (rn_st d_X_safe_105 rfl rfl rfl (by decide) rfl (Nat.le_of_ble_eq_true rfl) (ls' := [some (.ref 1), some (.int x1), some (.int x2), some (.int x3), some (.int (x4 ||| v5)), some (.int x5), some (.int x6)]) rfl).trans ?_
        refine (rn_inc d_X_safe_107 rfl (c := 1) (by decide) (ls' := [some (.ref 1), some (.int x1), some (.int x2), some (.int x3), some (.int (x4 ||| v5)), some (.int x5), some (.int (x6 + 1))]) rfl).trans ?_
        refine (rn_goto d_X_safe_110 (t := 39) (by decide)).trans ?_
        rfl
    · refine (rn_inc d_X_safe_107 rfl (c := 1) (by decide) (ls' := [some (.ref 1), some (.int x1), some (.int x2), some (.int x3), some (.int x4), some (.int x5), some (.int (x6 + 1))]) rfl).trans ?_
      refine (rn_goto d_X_safe_110 (t := 39) (by decide)).trans ?_
      rfl
theorem e_X_safe {X : zX} {x1 : Int32} {x2 : Int32} {h : zH} : zcf X m_X_safe [.ref 1, .int x1, .int x2] h = (zbI (zcf X m_X_wrongWhat [.ref 1, .int x1, .int x2, .int 1] h) fun v2 h1 => (if v2 = 0 then (zbV (zcf X m_H_become [.ref 8, .ref 2] h1) fun h3 => zrn X 3 m_X_safe 39 [some (.ref 1), some (.int x1), some (.int x2), some (.int v2), some (.int 0), some (.int (-9)), some (.int 0)] [] h3) else (zbI (zcf X m_X_refuse [.ref 1, .int v2] h1) fun v5 h4 => (some (some (.int v5), h4))))) := by
  refine (zcf_run (Nat.le_of_ble_eq_true rfl)).trans ?_
  show zrn X 3 m_X_safe 0 [some (.ref 1), some (.int x1), some (.int x2), none, none, none, none] [] h = _
  refine (rn_ld d_X_safe_0 rfl rfl rfl rfl).trans ?_
  refine (rn_ld d_X_safe_1 rfl rfl rfl rfl).trans ?_
  refine (rn_ld d_X_safe_2 rfl rfl rfl rfl).trans ?_
  refine (rn_push d_X_safe_3 zcs_iconst_1).trans ?_
  refine (rn_vI d_X_safe_4 (zinv_v l_3_167 (by decide) (Nat.le_of_ble_eq_true rfl) rfl rfl zc_1 (Nat.le_of_ble_eq_true rfl)) (Nat.le_of_ble_eq_true rfl) (Or.inl rfl)).trans (zbI_congr fun v2 h1 => ?_)
  refine (rn_st d_X_safe_7 rfl rfl rfl (by decide) rfl (Nat.le_of_ble_eq_true rfl) (ls' := [some (.ref 1), some (.int x1), some (.int x2), some (.int v2), none, none, none]) rfl).trans ?_
  refine (rn_ld d_X_safe_8 rfl rfl rfl rfl).trans ?_
  refine (rn_if_eq d_X_safe_9 (t := 18) (by decide)).trans (zif ?_ ?_)
  · refine (rn_ld d_X_safe_18 rfl rfl rfl rfl).trans ?_
    refine (rn_gr d_X_safe_19 f_3_16 zc_1 zr_1_1).trans ?_
    refine (rn_ld d_X_safe_22 rfl rfl rfl rfl).trans ?_
    refine (rn_gr d_X_safe_23 f_3_10 zc_1 zr_1_0).trans ?_
    refine (rn_vV d_X_safe_26 (zinv_v l_3_69 (by decide) (Nat.le_of_ble_eq_true rfl) rfl rfl zc_8 (Nat.le_of_ble_eq_true rfl)) (Nat.le_of_ble_eq_true rfl) rfl).trans (zbV_congr fun h3 => ?_)
    refine (rn_push d_X_safe_29 zcs_iconst_0).trans ?_
    refine (rn_st d_X_safe_30 rfl rfl rfl (by decide) rfl (Nat.le_of_ble_eq_true rfl) (ls' := [some (.ref 1), some (.int x1), some (.int x2), some (.int v2), some (.int 0), none, none]) rfl).trans ?_
    refine (rn_push d_X_safe_32 zcs_bipush_m9).trans ?_
    refine (rn_st d_X_safe_34 rfl rfl rfl (by decide) rfl (Nat.le_of_ble_eq_true rfl) (ls' := [some (.ref 1), some (.int x1), some (.int x2), some (.int v2), some (.int 0), some (.int (-9)), none]) rfl).trans ?_
    refine (rn_push d_X_safe_36 zcs_iconst_0).trans ?_
    refine (rn_st d_X_safe_37 rfl rfl rfl (by decide) rfl (Nat.le_of_ble_eq_true rfl) (ls' := [some (.ref 1), some (.int x1), some (.int x2), some (.int v2), some (.int 0), some (.int (-9)), some (.int 0)]) rfl).trans ?_
    rfl
  · refine (rn_ld d_X_safe_12 rfl rfl rfl rfl).trans ?_
    refine (rn_ld d_X_safe_13 rfl rfl rfl rfl).trans ?_
    refine (rn_vI d_X_safe_14 (zinv_v l_3_55 (by decide) (Nat.le_of_ble_eq_true rfl) rfl rfl zc_1 (Nat.le_of_ble_eq_true rfl)) (Nat.le_of_ble_eq_true rfl) (Or.inl rfl)).trans (zbI_congr fun v5 h4 => ?_)
    exact rn_ri d_X_safe_17 rfl
theorem b_X_alone_39 {X : zX} {x1 : Int32} {x2 : Int32} {x3 : Int32} {x4 : Int32} {x5 : Int32} {x6 : Int32} {h : zH} : zrn X 4 m_X_alone 39 [some (.ref 1), some (.int x1), some (.int x2), some (.int x3), some (.int x4), some (.int x5), some (.int x6)] [] h = (if 36 ≤ x6 then (if x2 = 0 then (some (some (.int x4), h)) else (some (some (.int x5), h))) else (zbI (zcf X m_H_isFree [.ref 2, .int x6] h) fun v2 h1 => (if v2 = 0 then zrn X 4 m_X_alone 39 [some (.ref 1), some (.int x1), some (.int x2), some (.int x3), some (.int x4), some (.int x5), some (.int (x6 + 1))] [] h1 else (zbV (zcf X m_H_place [.ref 8, .int x1, .int x6] h1) fun h3 => (zbI (zcf X m_H_inLens [.ref 8, .int x1] h3) fun v5 h4 => (if v5 = (-9) then (zbI (zcf X m_H_watchers [.ref 8, .int x1] h4) fun v7 h6 => zrn X 4 m_X_alone 39 [some (.ref 1), some (.int x1), some (.int x2), some (.int x3), some (.int (if v7 = 0 then (x4 + 1) else x4)), some (.int (if v7 = 0 then (if x5 = (-9) then x6 else x5) else x5)), some (.int (x6 + 1))] [] h6) else zrn X 4 m_X_alone 39 [some (.ref 1), some (.int x1), some (.int x2), some (.int x3), some (.int x4), some (.int x5), some (.int (x6 + 1))] [] h4)))))) := by
  refine (rn_ld d_X_alone_39 rfl rfl rfl rfl).trans ?_
  refine (rn_push d_X_alone_41 zcs_bipush_36).trans ?_
  refine (rn_ic_ge d_X_alone_43 (t := 117) (by decide)).trans (zif ?_ ?_)
  · refine (rn_ld d_X_alone_117 rfl rfl rfl rfl).trans ?_
    refine (rn_if_ne d_X_alone_118 (t := 126) (by decide)).trans (zif ?_ ?_)
    · refine (rn_ld d_X_alone_121 rfl rfl rfl rfl).trans ?_
      refine (rn_goto d_X_alone_123 (t := 128) (by decide)).trans ?_
      exact rn_ri d_X_alone_128 rfl
    · refine (rn_ld d_X_alone_126 rfl rfl rfl rfl).trans ?_
      exact rn_ri d_X_alone_128 rfl
  · refine (rn_ld d_X_alone_46 rfl rfl rfl rfl).trans ?_
    refine (rn_gr d_X_alone_47 f_3_10 zc_1 zr_1_0).trans ?_
    refine (rn_ld d_X_alone_50 rfl rfl rfl rfl).trans ?_
    refine (rn_vI d_X_alone_52 (zinv_v l_3_119 (by decide) (Nat.le_of_ble_eq_true rfl) rfl rfl zc_2 (Nat.le_of_ble_eq_true rfl)) (Nat.le_of_ble_eq_true rfl) (Or.inr rfl)).trans (zbI_congr fun v2 h1 => ?_)
    refine (rn_if_eq d_X_alone_55 (t := 111) (by decide)).trans (zif ?_ ?_)
    · refine (rn_inc d_X_alone_111 rfl (c := 1) (by decide) (ls' := [some (.ref 1), some (.int x1), some (.int x2), some (.int x3), some (.int x4), some (.int x5), some (.int (x6 + 1))]) rfl).trans ?_
      refine (rn_goto d_X_alone_114 (t := 39) (by decide)).trans ?_
      rfl
    · refine (rn_ld d_X_alone_58 rfl rfl rfl rfl).trans ?_
      refine (rn_gr d_X_alone_59 f_3_16 zc_1 zr_1_1).trans ?_
      refine (rn_ld d_X_alone_62 rfl rfl rfl rfl).trans ?_
      refine (rn_ld d_X_alone_63 rfl rfl rfl rfl).trans ?_
      refine (rn_vV d_X_alone_65 (zinv_v l_3_133 (by decide) (Nat.le_of_ble_eq_true rfl) rfl rfl zc_8 (Nat.le_of_ble_eq_true rfl)) (Nat.le_of_ble_eq_true rfl) rfl).trans (zbV_congr fun h3 => ?_)
      refine (rn_ld d_X_alone_68 rfl rfl rfl rfl).trans ?_
      refine (rn_gr d_X_alone_69 f_3_16 zc_1 zr_1_1).trans ?_
      refine (rn_ld d_X_alone_72 rfl rfl rfl rfl).trans ?_
      refine (rn_vI d_X_alone_73 (zinv_v l_3_161 (by decide) (Nat.le_of_ble_eq_true rfl) rfl rfl zc_8 (Nat.le_of_ble_eq_true rfl)) (Nat.le_of_ble_eq_true rfl) (Or.inl rfl)).trans (zbI_congr fun v5 h4 => ?_)
      refine (rn_push d_X_alone_76 zcs_bipush_m9).trans ?_
      refine (rn_ic_ne d_X_alone_78 (t := 111) (by decide)).trans (zif ?_ ?_)
      · refine (rn_ld d_X_alone_81 rfl rfl rfl rfl).trans ?_
        refine (rn_gr d_X_alone_82 f_3_16 zc_1 zr_1_1).trans ?_
        refine (rn_ld d_X_alone_85 rfl rfl rfl rfl).trans ?_
        refine (rn_vI d_X_alone_86 (zinv_v l_3_164 (by decide) (Nat.le_of_ble_eq_true rfl) rfl rfl zc_8 (Nat.le_of_ble_eq_true rfl)) (Nat.le_of_ble_eq_true rfl) (Or.inl rfl)).trans (zbI_congr fun v7 h6 => ?_)
        refine Eq.trans (b := zrn X 4 m_X_alone 111 [some (.ref 1), some (.int x1), some (.int x2), some (.int x3), some (.int (if v7 = 0 then (x4 + 1) else x4)), some (.int (if v7 = 0 then (if x5 = (-9) then x6 else x5) else x5)), some (.int x6)] [] h6) ?_ ?_
        · refine (rn_if_ne d_X_alone_89 (t := 111) (by decide)).trans ?_
          by_cases q8 : v7 = 0
          · simp only [if_pos q8]
            refine (rn_inc d_X_alone_92 rfl (c := 1) (by decide) (ls' := [some (.ref 1), some (.int x1), some (.int x2), some (.int x3), some (.int (x4 + 1)), some (.int x5), some (.int x6)]) rfl).trans ?_
            refine (rn_ld d_X_alone_95 rfl rfl rfl rfl).trans ?_
            refine (rn_push d_X_alone_97 zcs_bipush_m9).trans ?_
            refine (rn_ic_ne d_X_alone_99 (t := 107) (by decide)).trans ?_
            by_cases q9 : x5 = (-9)
            · simp only [if_pos q9]
              refine (rn_ld d_X_alone_102 rfl rfl rfl rfl).trans ?_
              refine (rn_goto d_X_alone_104 (t := 109) (by decide)).trans ?_
              refine (rn_st d_X_alone_109 rfl rfl rfl (by decide) rfl (Nat.le_of_ble_eq_true rfl) (ls' := [some (.ref 1), some (.int x1), some (.int x2), some (.int x3), some (.int (x4 + 1)), some (.int x6), some (.int x6)]) rfl).trans ?_
              all_goals rfl
            · simp only [if_neg q9]
              refine (rn_ld d_X_alone_107 rfl rfl rfl rfl).trans ?_
              refine (rn_st d_X_alone_109 rfl rfl rfl (by decide) rfl (Nat.le_of_ble_eq_true rfl) (ls' := [some (.ref 1), some (.int x1), some (.int x2), some (.int x3), some (.int (x4 + 1)), some (.int x5), some (.int x6)]) rfl).trans ?_
              all_goals rfl
          · simp only [if_neg q8]
            all_goals rfl
        refine (rn_inc d_X_alone_111 rfl (c := 1) (by decide) (ls' := [some (.ref 1), some (.int x1), some (.int x2), some (.int x3), some (.int (if v7 = 0 then (x4 + 1) else x4)), some (.int (if v7 = 0 then (if x5 = (-9) then x6 else x5) else x5)), some (.int (x6 + 1))]) rfl).trans ?_
        refine (rn_goto d_X_alone_114 (t := 39) (by decide)).trans ?_
        rfl
      · refine (rn_inc d_X_alone_111 rfl (c := 1) (by decide) (ls' := [some (.ref 1), some (.int x1), some (.int x2), some (.int x3), some (.int x4), some (.int x5), some (.int (x6 + 1))]) rfl).trans ?_
        refine (rn_goto d_X_alone_114 (t := 39) (by decide)).trans ?_
        rfl
theorem e_X_alone {X : zX} {x1 : Int32} {x2 : Int32} {h : zH} : zcf X m_X_alone [.ref 1, .int x1, .int x2] h = (zbI (zcf X m_X_wrongWhat [.ref 1, .int x1, .int x2, .int 1] h) fun v2 h1 => (if v2 = 0 then (zbV (zcf X m_H_become [.ref 8, .ref 2] h1) fun h3 => zrn X 4 m_X_alone 39 [some (.ref 1), some (.int x1), some (.int x2), some (.int v2), some (.int 0), some (.int (-9)), some (.int 0)] [] h3) else (zbI (zcf X m_X_refuse [.ref 1, .int v2] h1) fun v5 h4 => (some (some (.int v5), h4))))) := by
  refine (zcf_run (Nat.le_of_ble_eq_true rfl)).trans ?_
  show zrn X 4 m_X_alone 0 [some (.ref 1), some (.int x1), some (.int x2), none, none, none, none] [] h = _
  refine (rn_ld d_X_alone_0 rfl rfl rfl rfl).trans ?_
  refine (rn_ld d_X_alone_1 rfl rfl rfl rfl).trans ?_
  refine (rn_ld d_X_alone_2 rfl rfl rfl rfl).trans ?_
  refine (rn_push d_X_alone_3 zcs_iconst_1).trans ?_
  refine (rn_vI d_X_alone_4 (zinv_v l_3_167 (by decide) (Nat.le_of_ble_eq_true rfl) rfl rfl zc_1 (Nat.le_of_ble_eq_true rfl)) (Nat.le_of_ble_eq_true rfl) (Or.inl rfl)).trans (zbI_congr fun v2 h1 => ?_)
  refine (rn_st d_X_alone_7 rfl rfl rfl (by decide) rfl (Nat.le_of_ble_eq_true rfl) (ls' := [some (.ref 1), some (.int x1), some (.int x2), some (.int v2), none, none, none]) rfl).trans ?_
  refine (rn_ld d_X_alone_8 rfl rfl rfl rfl).trans ?_
  refine (rn_if_eq d_X_alone_9 (t := 18) (by decide)).trans (zif ?_ ?_)
  · refine (rn_ld d_X_alone_18 rfl rfl rfl rfl).trans ?_
    refine (rn_gr d_X_alone_19 f_3_16 zc_1 zr_1_1).trans ?_
    refine (rn_ld d_X_alone_22 rfl rfl rfl rfl).trans ?_
    refine (rn_gr d_X_alone_23 f_3_10 zc_1 zr_1_0).trans ?_
    refine (rn_vV d_X_alone_26 (zinv_v l_3_69 (by decide) (Nat.le_of_ble_eq_true rfl) rfl rfl zc_8 (Nat.le_of_ble_eq_true rfl)) (Nat.le_of_ble_eq_true rfl) rfl).trans (zbV_congr fun h3 => ?_)
    refine (rn_push d_X_alone_29 zcs_iconst_0).trans ?_
    refine (rn_st d_X_alone_30 rfl rfl rfl (by decide) rfl (Nat.le_of_ble_eq_true rfl) (ls' := [some (.ref 1), some (.int x1), some (.int x2), some (.int v2), some (.int 0), none, none]) rfl).trans ?_
    refine (rn_push d_X_alone_32 zcs_bipush_m9).trans ?_
    refine (rn_st d_X_alone_34 rfl rfl rfl (by decide) rfl (Nat.le_of_ble_eq_true rfl) (ls' := [some (.ref 1), some (.int x1), some (.int x2), some (.int v2), some (.int 0), some (.int (-9)), none]) rfl).trans ?_
    refine (rn_push d_X_alone_36 zcs_iconst_0).trans ?_
    refine (rn_st d_X_alone_37 rfl rfl rfl (by decide) rfl (Nat.le_of_ble_eq_true rfl) (ls' := [some (.ref 1), some (.int x1), some (.int x2), some (.int v2), some (.int 0), some (.int (-9)), some (.int 0)]) rfl).trans ?_
    rfl
  · refine (rn_ld d_X_alone_12 rfl rfl rfl rfl).trans ?_
    refine (rn_ld d_X_alone_13 rfl rfl rfl rfl).trans ?_
    refine (rn_vI d_X_alone_14 (zinv_v l_3_55 (by decide) (Nat.le_of_ble_eq_true rfl) rfl rfl zc_1 (Nat.le_of_ble_eq_true rfl)) (Nat.le_of_ble_eq_true rfl) (Or.inl rfl)).trans (zbI_congr fun v5 h4 => ?_)
    exact rn_ri d_X_alone_17 rfl
theorem b_X_turnAll_4 {X : zX} {x1 : Int32} {x2 : Int32} {h : zH} : zrn X 3 m_X_turnAll 4 [some (.ref 1), some (.int x1), some (.int x2)] [] h = (if (h.1 2 5) ≤ x2 then (some (some (.int x1), h)) else (zbI (zcf X m_H_ahead [.ref 2, .int x2] h) fun v2 h1 => (if v2 = (-9) then zrn X 3 m_X_turnAll 4 [some (.ref 1), some (.int x1), some (.int (x2 + 1))] [] h1 else (zbI (zcf X m_H_seesAllWays [.ref 2, .int x2] h1) fun v4 h3 => (if v4 = 0 then zrn X 3 m_X_turnAll 4 [some (.ref 1), some (.int (x1 + 1)), some (.int (x2 + 1))] [] h3 else (some (some (.int (-9)), h3))))))) := by
  refine (rn_ld d_X_turnAll_4 rfl rfl rfl rfl).trans ?_
  refine (rn_ld d_X_turnAll_5 rfl rfl rfl rfl).trans ?_
  refine (rn_gr d_X_turnAll_6 f_3_10 zc_1 zr_1_0).trans ?_
  refine (rn_gi d_X_turnAll_9 f_3_112 zc_2).trans ?_
  refine (rn_ic_ge d_X_turnAll_12 (t := 51) (by decide)).trans (zif ?_ ?_)
  · refine (rn_ld d_X_turnAll_51 rfl rfl rfl rfl).trans ?_
    exact rn_ri d_X_turnAll_52 rfl
  · refine (rn_ld d_X_turnAll_15 rfl rfl rfl rfl).trans ?_
    refine (rn_gr d_X_turnAll_16 f_3_10 zc_1 zr_1_0).trans ?_
    refine (rn_ld d_X_turnAll_19 rfl rfl rfl rfl).trans ?_
    refine (rn_vI d_X_turnAll_20 (zinv_v l_3_158 (by decide) (Nat.le_of_ble_eq_true rfl) rfl rfl zc_2 (Nat.le_of_ble_eq_true rfl)) (Nat.le_of_ble_eq_true rfl) (Or.inl rfl)).trans (zbI_congr fun v2 h1 => ?_)
    refine (rn_push d_X_turnAll_23 zcs_bipush_m9).trans ?_
    refine (rn_ic_eq d_X_turnAll_25 (t := 45) (by decide)).trans (zif ?_ ?_)
    · refine (rn_inc d_X_turnAll_45 rfl (c := 1) (by decide) (ls' := [some (.ref 1), some (.int x1), some (.int (x2 + 1))]) rfl).trans ?_
      refine (rn_goto d_X_turnAll_48 (t := 4) (by decide)).trans ?_
      rfl
    · refine (rn_inc d_X_turnAll_28 rfl (c := 1) (by decide) (ls' := [some (.ref 1), some (.int (x1 + 1)), some (.int x2)]) rfl).trans ?_
      refine (rn_ld d_X_turnAll_31 rfl rfl rfl rfl).trans ?_
      refine (rn_gr d_X_turnAll_32 f_3_10 zc_1 zr_1_0).trans ?_
      refine (rn_ld d_X_turnAll_35 rfl rfl rfl rfl).trans ?_
      refine (rn_vI d_X_turnAll_36 (zinv_v l_3_189 (by decide) (Nat.le_of_ble_eq_true rfl) rfl rfl zc_2 (Nat.le_of_ble_eq_true rfl)) (Nat.le_of_ble_eq_true rfl) (Or.inr rfl)).trans (zbI_congr fun v4 h3 => ?_)
      refine (rn_if_eq d_X_turnAll_39 (t := 45) (by decide)).trans (zif ?_ ?_)
      · refine (rn_inc d_X_turnAll_45 rfl (c := 1) (by decide) (ls' := [some (.ref 1), some (.int (x1 + 1)), some (.int (x2 + 1))]) rfl).trans ?_
        refine (rn_goto d_X_turnAll_48 (t := 4) (by decide)).trans ?_
        rfl
      · refine (rn_push d_X_turnAll_42 zcs_bipush_m9).trans ?_
        exact rn_ri d_X_turnAll_44 rfl
theorem e_X_turnAll {X : zX} {h : zH} : zcf X m_X_turnAll [.ref 1] h = zrn X 3 m_X_turnAll 4 [some (.ref 1), some (.int 0), some (.int 0)] [] h := by
  refine (zcf_run (Nat.le_of_ble_eq_true rfl)).trans ?_
  show zrn X 3 m_X_turnAll 0 [some (.ref 1), none, none] [] h = _
  refine (rn_push d_X_turnAll_0 zcs_iconst_0).trans ?_
  refine (rn_st d_X_turnAll_1 rfl rfl rfl (by decide) rfl (Nat.le_of_ble_eq_true rfl) (ls' := [some (.ref 1), some (.int 0), none]) rfl).trans ?_
  refine (rn_push d_X_turnAll_2 zcs_iconst_0).trans ?_
  refine (rn_st d_X_turnAll_3 rfl rfl rfl (by decide) rfl (Nat.le_of_ble_eq_true rfl) (ls' := [some (.ref 1), some (.int 0), some (.int 0)]) rfl).trans ?_
  rfl
theorem b_X_post_58 {X : zX} {x1 : Int32} {x2 : Int32} {x3 : Int32} {g4 : Option Value} {h : zH} : zrn X 4 m_X_post 58 [some (.ref 1), some (.int x1), some (.int x2), some (.int x3), g4] [] h = (if 36 ≤ x3 then (some (some (.int (-9)), h)) else (zbI (zcf X m_H_isFree [.ref 2, .int x3] h) fun v2 h1 => (if v2 = 0 then zrn X 4 m_X_post 58 [some (.ref 1), some (.int x1), some (.int x2), some (.int (x3 + 1)), g4] [] h1 else (zbV (zcf X m_H_place [.ref 8, .int x2, .int x3] h1) fun h3 => (zbI (zcf X m_H_watchers [.ref 8, .int x2] h3) fun v5 h4 => (if v5 = 0 then (zbI (zcf X m_H_facesToSeeUnseen [.ref 8, .int x2] h4) fun v7 h6 => (if v7 = (-9) then zrn X 4 m_X_post 58 [some (.ref 1), some (.int x1), some (.int x2), some (.int (x3 + 1)), some (.int v7)] [] h6 else (some (some (.int ((10 * x3) + v7)), h6)))) else zrn X 4 m_X_post 58 [some (.ref 1), some (.int x1), some (.int x2), some (.int (x3 + 1)), some (.int (-9))] [] h4)))))) := by
  refine (rn_ld d_X_post_58 rfl rfl rfl rfl).trans ?_
  refine (rn_push d_X_post_59 zcs_bipush_36).trans ?_
  refine (rn_ic_ge d_X_post_61 (t := 131) (by decide)).trans (zif ?_ ?_)
  · refine (rn_push d_X_post_131 zcs_bipush_m9).trans ?_
    exact rn_ri d_X_post_133 rfl
  · refine (rn_ld d_X_post_64 rfl rfl rfl rfl).trans ?_
    refine (rn_gr d_X_post_65 f_3_10 zc_1 zr_1_0).trans ?_
    refine (rn_ld d_X_post_68 rfl rfl rfl rfl).trans ?_
    refine (rn_vI d_X_post_69 (zinv_v l_3_119 (by decide) (Nat.le_of_ble_eq_true rfl) rfl rfl zc_2 (Nat.le_of_ble_eq_true rfl)) (Nat.le_of_ble_eq_true rfl) (Or.inr rfl)).trans (zbI_congr fun v2 h1 => ?_)
    refine (rn_if_eq d_X_post_72 (t := 125) (by decide)).trans (zif ?_ ?_)
    · refine (rn_inc d_X_post_125 rfl (c := 1) (by decide) (ls' := [some (.ref 1), some (.int x1), some (.int x2), some (.int (x3 + 1)), g4]) rfl).trans ?_
      refine (rn_goto d_X_post_128 (t := 58) (by decide)).trans ?_
      rfl
    · refine (rn_ld d_X_post_75 rfl rfl rfl rfl).trans ?_
      refine (rn_gr d_X_post_76 f_3_16 zc_1 zr_1_1).trans ?_
      refine (rn_ld d_X_post_79 rfl rfl rfl rfl).trans ?_
      refine (rn_ld d_X_post_80 rfl rfl rfl rfl).trans ?_
      refine (rn_vV d_X_post_81 (zinv_v l_3_133 (by decide) (Nat.le_of_ble_eq_true rfl) rfl rfl zc_8 (Nat.le_of_ble_eq_true rfl)) (Nat.le_of_ble_eq_true rfl) rfl).trans (zbV_congr fun h3 => ?_)
      refine (rn_ld d_X_post_84 rfl rfl rfl rfl).trans ?_
      refine (rn_gr d_X_post_85 f_3_16 zc_1 zr_1_1).trans ?_
      refine (rn_ld d_X_post_88 rfl rfl rfl rfl).trans ?_
      refine (rn_vI d_X_post_89 (zinv_v l_3_164 (by decide) (Nat.le_of_ble_eq_true rfl) rfl rfl zc_8 (Nat.le_of_ble_eq_true rfl)) (Nat.le_of_ble_eq_true rfl) (Or.inl rfl)).trans (zbI_congr fun v5 h4 => ?_)
      refine (rn_if_ne d_X_post_92 (t := 106) (by decide)).trans (zif ?_ ?_)
      · refine (rn_ld d_X_post_95 rfl rfl rfl rfl).trans ?_
        refine (rn_gr d_X_post_96 f_3_16 zc_1 zr_1_1).trans ?_
        refine (rn_ld d_X_post_99 rfl rfl rfl rfl).trans ?_
        refine (rn_vI d_X_post_100 (zinv_v l_3_192 (by decide) (Nat.le_of_ble_eq_true rfl) rfl rfl zc_8 (Nat.le_of_ble_eq_true rfl)) (Nat.le_of_ble_eq_true rfl) (Or.inl rfl)).trans (zbI_congr fun v7 h6 => ?_)
        refine (rn_goto d_X_post_103 (t := 108) (by decide)).trans ?_
        refine (rn_st d_X_post_108 rfl rfl rfl (by decide) rfl (Nat.le_of_ble_eq_true rfl) (ls' := [some (.ref 1), some (.int x1), some (.int x2), some (.int x3), some (.int v7)]) rfl).trans ?_
        refine (rn_ld d_X_post_110 rfl rfl rfl rfl).trans ?_
        refine (rn_push d_X_post_112 zcs_bipush_m9).trans ?_
        refine (rn_ic_eq d_X_post_114 (t := 125) (by decide)).trans (zif ?_ ?_)
        · refine (rn_inc d_X_post_125 rfl (c := 1) (by decide) (ls' := [some (.ref 1), some (.int x1), some (.int x2), some (.int (x3 + 1)), some (.int v7)]) rfl).trans ?_
          refine (rn_goto d_X_post_128 (t := 58) (by decide)).trans ?_
          rfl
        · refine (rn_push d_X_post_117 zcs_bipush_10).trans ?_
          refine (rn_ld d_X_post_119 rfl rfl rfl rfl).trans ?_
          refine (rn_a2 d_X_post_120 rfl).trans ?_
          refine (rn_ld d_X_post_121 rfl rfl rfl rfl).trans ?_
          refine (rn_a2 d_X_post_123 rfl).trans ?_
          exact rn_ri d_X_post_124 rfl
      · refine (rn_push d_X_post_106 zcs_bipush_m9).trans ?_
        refine (rn_st d_X_post_108 rfl rfl rfl (by decide) rfl (Nat.le_of_ble_eq_true rfl) (ls' := [some (.ref 1), some (.int x1), some (.int x2), some (.int x3), some (.int (-9))]) rfl).trans ?_
        refine (rn_ld d_X_post_110 rfl rfl rfl rfl).trans ?_
        refine (rn_push d_X_post_112 zcs_bipush_m9).trans ?_
        refine ((rn_ic_eq d_X_post_114 (t := 125) (by decide)).trans (if_pos (by decide))).trans ?_
        refine (rn_inc d_X_post_125 rfl (c := 1) (by decide) (ls' := [some (.ref 1), some (.int x1), some (.int x2), some (.int (x3 + 1)), some (.int (-9))]) rfl).trans ?_
        refine (rn_goto d_X_post_128 (t := 58) (by decide)).trans ?_
        rfl
theorem e_X_post {X : zX} {x1 : Int32} {h : zH} : zcf X m_X_post [.ref 1, .int x1] h = (zbI (zcf X m_X_isKind [.int x1] h) fun v2 h1 => (if v2 = 0 then (zbI (zcf X m_X_refuse [.ref 1, .int (-2)] h1) fun v4 h3 => (some (some (.int v4), h3))) else (if (h1.1 2 5) < 6 then (zbV (zcf X m_H_become [.ref 8, .ref 2] h1) fun h5 => (zbI (zcf X m_H_join [.ref 8, .int x1, .int 5, .int (-1), .int 0] h5) fun v7 h6 => zrn X 4 m_X_post 58 [some (.ref 1), some (.int x1), some (.int v7), some (.int 0), none] [] h6)) else (zbI (zcf X m_X_refuse [.ref 1, .int (-3)] h1) fun v9 h8 => (some (some (.int v9), h8)))))) := by
  refine (zcf_run (Nat.le_of_ble_eq_true rfl)).trans ?_
  show zrn X 4 m_X_post 0 [some (.ref 1), some (.int x1), none, none, none] [] h = _
  refine (rn_ld d_X_post_0 rfl rfl rfl rfl).trans ?_
  refine (rn_sI d_X_post_1 nb_3_109 (zinv_s l_3_109 (by decide) (Nat.le_of_ble_eq_true rfl) rfl rfl (Nat.le_of_ble_eq_true rfl)) (Nat.le_of_ble_eq_true rfl) (Or.inr rfl)).trans (zbI_congr fun v2 h1 => ?_)
  refine (rn_if_ne d_X_post_4 (t := 14) (by decide)).trans (zif ?_ ?_)
  · refine (rn_ld d_X_post_7 rfl rfl rfl rfl).trans ?_
    refine (rn_push d_X_post_8 zcs_bipush_m2).trans ?_
    refine (rn_vI d_X_post_10 (zinv_v l_3_55 (by decide) (Nat.le_of_ble_eq_true rfl) rfl rfl zc_1 (Nat.le_of_ble_eq_true rfl)) (Nat.le_of_ble_eq_true rfl) (Or.inl rfl)).trans (zbI_congr fun v4 h3 => ?_)
    exact rn_ri d_X_post_13 rfl
  · refine (rn_ld d_X_post_14 rfl rfl rfl rfl).trans ?_
    refine (rn_gr d_X_post_15 f_3_10 zc_1 zr_1_0).trans ?_
    refine (rn_gi d_X_post_18 f_3_112 zc_2).trans ?_
    refine (rn_push d_X_post_21 zcs_bipush_6).trans ?_
    refine (rn_ic_lt d_X_post_23 (t := 33) (by decide)).trans (zif ?_ ?_)
    · refine (rn_ld d_X_post_33 rfl rfl rfl rfl).trans ?_
      refine (rn_gr d_X_post_34 f_3_16 zc_1 zr_1_1).trans ?_
      refine (rn_ld d_X_post_37 rfl rfl rfl rfl).trans ?_
      refine (rn_gr d_X_post_38 f_3_10 zc_1 zr_1_0).trans ?_
      refine (rn_vV d_X_post_41 (zinv_v l_3_69 (by decide) (Nat.le_of_ble_eq_true rfl) rfl rfl zc_8 (Nat.le_of_ble_eq_true rfl)) (Nat.le_of_ble_eq_true rfl) rfl).trans (zbV_congr fun h5 => ?_)
      refine (rn_ld d_X_post_44 rfl rfl rfl rfl).trans ?_
      refine (rn_gr d_X_post_45 f_3_16 zc_1 zr_1_1).trans ?_
      refine (rn_ld d_X_post_48 rfl rfl rfl rfl).trans ?_
      refine (rn_push d_X_post_49 zcs_iconst_5).trans ?_
      refine (rn_push d_X_post_50 zcs_iconst_m1).trans ?_
      refine (rn_push d_X_post_51 zcs_iconst_0).trans ?_
      refine (rn_vI d_X_post_52 (zinv_v l_3_122 (by decide) (Nat.le_of_ble_eq_true rfl) rfl rfl zc_8 (Nat.le_of_ble_eq_true rfl)) (Nat.le_of_ble_eq_true rfl) (Or.inl rfl)).trans (zbI_congr fun v7 h6 => ?_)
      refine (rn_st d_X_post_55 rfl rfl rfl (by decide) rfl (Nat.le_of_ble_eq_true rfl) (ls' := [some (.ref 1), some (.int x1), some (.int v7), none, none]) rfl).trans ?_
      refine (rn_push d_X_post_56 zcs_iconst_0).trans ?_
      refine (rn_st d_X_post_57 rfl rfl rfl (by decide) rfl (Nat.le_of_ble_eq_true rfl) (ls' := [some (.ref 1), some (.int x1), some (.int v7), some (.int 0), none]) rfl).trans ?_
      rfl
    · refine (rn_ld d_X_post_26 rfl rfl rfl rfl).trans ?_
      refine (rn_push d_X_post_27 zcs_bipush_m3).trans ?_
      refine (rn_vI d_X_post_29 (zinv_v l_3_55 (by decide) (Nat.le_of_ble_eq_true rfl) rfl rfl zc_1 (Nat.le_of_ble_eq_true rfl)) (Nat.le_of_ble_eq_true rfl) (Or.inl rfl)).trans (zbI_congr fun v9 h8 => ?_)
      exact rn_ri d_X_post_32 rfl
theorem b_X_which_46 {X : zX} {x1 : Int32} {x2 : Int32} {x3 : Int32} {x4 : Int32} {x5 : Int32} {x6 : Int32} {h : zH} : zrn X 6 m_X_which 46 [some (.ref 1), some (.int x1), some (.int x2), some (.int x3), some (.int x4), some (.int x5), some (.int x6)] [] h = (if x4 ≤ x6 then (some (some (.int x5), h)) else (zbV (zcf X m_H_become [.ref 8, .ref 2] h) fun h1 => (if x2 = 0 then (zbV (zcf X m_H_beOfKind [.ref 8, .int x1, .int x6] h1) fun h2 => (zbI (zcf X m_X_turnsAsTold [.ref 1, .int x1] h2) fun v4 h3 => (if v4 = 0 then zrn X 6 m_X_which 46 [some (.ref 1), some (.int x1), some (.int x2), some (.int x3), some (.int x4), some (.int (x5 ||| 0)), some (.int (x6 + 1))] [] h3 else (zbI (zcf X m_X_bitOf [.int x6] h3) fun v6 h5 => zrn X 6 m_X_which 46 [some (.ref 1), some (.int x1), some (.int x2), some (.int x3), some (.int x4), some (.int (x5 ||| v6)), some (.int (x6 + 1))] [] h5)))) else (if x2 = 1 then (zbV (zcf X m_H_beOfFigure [.ref 8, .int x1, .int x6] h1) fun h7 => (zbI (zcf X m_X_turnsAsTold [.ref 1, .int x1] h7) fun v9 h8 => (if v9 = 0 then zrn X 6 m_X_which 46 [some (.ref 1), some (.int x1), some (.int x2), some (.int x3), some (.int x4), some (.int (x5 ||| 0)), some (.int (x6 + 1))] [] h8 else (zbI (zcf X m_X_bitOf [.int x6] h8) fun v11 h10 => zrn X 6 m_X_which 46 [some (.ref 1), some (.int x1), some (.int x2), some (.int x3), some (.int x4), some (.int (x5 ||| v11)), some (.int (x6 + 1))] [] h10)))) else (zbV (zcf X m_H_face [.ref 8, .int x1, .int x6] h1) fun h12 => (zbI (zcf X m_X_turnsAsTold [.ref 1, .int x1] h12) fun v14 h13 => (if v14 = 0 then zrn X 6 m_X_which 46 [some (.ref 1), some (.int x1), some (.int x2), some (.int x3), some (.int x4), some (.int (x5 ||| 0)), some (.int (x6 + 1))] [] h13 else (zbI (zcf X m_X_bitOf [.int x6] h13) fun v16 h15 => zrn X 6 m_X_which 46 [some (.ref 1), some (.int x1), some (.int x2), some (.int x3), some (.int x4), some (.int (x5 ||| v16)), some (.int (x6 + 1))] [] h15)))))))) := by
  refine (rn_ld d_X_which_46 rfl rfl rfl rfl).trans ?_
  refine (rn_ld d_X_which_48 rfl rfl rfl rfl).trans ?_
  refine (rn_ic_ge d_X_which_50 (t := 137) (by decide)).trans (zif ?_ ?_)
  · refine (rn_ld d_X_which_137 rfl rfl rfl rfl).trans ?_
    exact rn_ri d_X_which_139 rfl
  · refine (rn_ld d_X_which_53 rfl rfl rfl rfl).trans ?_
    refine (rn_gr d_X_which_54 f_3_16 zc_1 zr_1_1).trans ?_
    refine (rn_ld d_X_which_57 rfl rfl rfl rfl).trans ?_
    refine (rn_gr d_X_which_58 f_3_10 zc_1 zr_1_0).trans ?_
    refine (rn_vV d_X_which_61 (zinv_v l_3_69 (by decide) (Nat.le_of_ble_eq_true rfl) rfl rfl zc_8 (Nat.le_of_ble_eq_true rfl)) (Nat.le_of_ble_eq_true rfl) rfl).trans (zbV_congr fun h1 => ?_)
    refine (rn_ld d_X_which_64 rfl rfl rfl rfl).trans ?_
    refine (rn_if_ne d_X_which_65 (t := 81) (by decide)).trans (zif ?_ ?_)
    · refine (rn_ld d_X_which_68 rfl rfl rfl rfl).trans ?_
      refine (rn_gr d_X_which_69 f_3_16 zc_1 zr_1_1).trans ?_
      refine (rn_ld d_X_which_72 rfl rfl rfl rfl).trans ?_
      refine (rn_ld d_X_which_73 rfl rfl rfl rfl).trans ?_
      refine (rn_vV d_X_which_75 (zinv_v l_3_195 (by decide) (Nat.le_of_ble_eq_true rfl) rfl rfl zc_8 (Nat.le_of_ble_eq_true rfl)) (Nat.le_of_ble_eq_true rfl) rfl).trans (zbV_congr fun h2 => ?_)
      refine (rn_goto d_X_which_78 (t := 109) (by decide)).trans ?_
      refine (rn_ld d_X_which_109 rfl rfl rfl rfl).trans ?_
      refine (rn_ld d_X_which_111 rfl rfl rfl rfl).trans ?_
      refine (rn_ld d_X_which_112 rfl rfl rfl rfl).trans ?_
      refine (rn_vI d_X_which_113 (zinv_v l_3_201 (by decide) (Nat.le_of_ble_eq_true rfl) rfl rfl zc_1 (Nat.le_of_ble_eq_true rfl)) (Nat.le_of_ble_eq_true rfl) (Or.inr rfl)).trans (zbI_congr fun v4 h3 => ?_)
      refine (rn_if_eq d_X_which_116 (t := 127) (by decide)).trans (zif ?_ ?_)
      · refine (rn_push d_X_which_127 zcs_iconst_0).trans ?_
        refine (rn_a2 d_X_which_128 rfl).trans ?_
        refine (rn_st d_X_which_129 rfl rfl rfl (by decide) rfl (Nat.le_of_ble_eq_true rfl) (ls' := [some (.ref 1), some (.int x1), some (.int x2), some (.int x3), some (.int x4), some (.int (x5 ||| 0)), some (.int x6)]) rfl).trans ?_
        refine (rn_inc d_X_which_131 rfl (c := 1) (by decide) (ls' := [some (.ref 1), some (.int x1), some (.int x2), some (.int x3), some (.int x4), some (.int (x5 ||| 0)), some (.int (x6 + 1))]) rfl).trans ?_
        refine (rn_goto d_X_which_134 (t := 46) (by decide)).trans ?_
        rfl
      · refine (rn_ld d_X_which_119 rfl rfl rfl rfl).trans ?_
        refine (rn_sI d_X_which_121 nb_3_177 (zinv_s l_3_177 (by decide) (Nat.le_of_ble_eq_true rfl) rfl rfl (Nat.le_of_ble_eq_true rfl)) (Nat.le_of_ble_eq_true rfl) (Or.inl rfl)).trans (zbI_congr fun v6 h5 => ?_)
        refine (rn_goto d_X_which_124 (t := 128) (by decide)).trans ?_
        refine (rn_a2 d_X_which_128 rfl).trans ?_
        refine (rn_st d_X_which_129 rfl rfl rfl (by decide) rfl (Nat.le_of_ble_eq_true rfl) (ls' := [some (.ref 1), some (.int x1), some (.int x2), some (.int x3), some (.int x4), some (.int (x5 ||| v6)), some (.int x6)]) rfl).trans ?_
        refine (rn_inc d_X_which_131 rfl (c := 1) (by decide) (ls' := [some (.ref 1), some (.int x1), some (.int x2), some (.int x3), some (.int x4), some (.int (x5 ||| v6)), some (.int (x6 + 1))]) rfl).trans ?_
        refine (rn_goto d_X_which_134 (t := 46) (by decide)).trans ?_
        rfl
    · refine (rn_ld d_X_which_81 rfl rfl rfl rfl).trans ?_
      refine (rn_push d_X_which_82 zcs_iconst_1).trans ?_
      refine (rn_ic_ne d_X_which_83 (t := 99) (by decide)).trans (zif ?_ ?_)
      · refine (rn_ld d_X_which_86 rfl rfl rfl rfl).trans ?_
        refine (rn_gr d_X_which_87 f_3_16 zc_1 zr_1_1).trans ?_
        refine (rn_ld d_X_which_90 rfl rfl rfl rfl).trans ?_
        refine (rn_ld d_X_which_91 rfl rfl rfl rfl).trans ?_
        refine (rn_vV d_X_which_93 (zinv_v l_3_198 (by decide) (Nat.le_of_ble_eq_true rfl) rfl rfl zc_8 (Nat.le_of_ble_eq_true rfl)) (Nat.le_of_ble_eq_true rfl) rfl).trans (zbV_congr fun h7 => ?_)
        refine (rn_goto d_X_which_96 (t := 109) (by decide)).trans ?_
        refine (rn_ld d_X_which_109 rfl rfl rfl rfl).trans ?_
        refine (rn_ld d_X_which_111 rfl rfl rfl rfl).trans ?_
        refine (rn_ld d_X_which_112 rfl rfl rfl rfl).trans ?_
        refine (rn_vI d_X_which_113 (zinv_v l_3_201 (by decide) (Nat.le_of_ble_eq_true rfl) rfl rfl zc_1 (Nat.le_of_ble_eq_true rfl)) (Nat.le_of_ble_eq_true rfl) (Or.inr rfl)).trans (zbI_congr fun v9 h8 => ?_)
        refine (rn_if_eq d_X_which_116 (t := 127) (by decide)).trans (zif ?_ ?_)
        · refine (rn_push d_X_which_127 zcs_iconst_0).trans ?_
          refine (rn_a2 d_X_which_128 rfl).trans ?_
          refine (rn_st d_X_which_129 rfl rfl rfl (by decide) rfl (Nat.le_of_ble_eq_true rfl) (ls' := [some (.ref 1), some (.int x1), some (.int x2), some (.int x3), some (.int x4), some (.int (x5 ||| 0)), some (.int x6)]) rfl).trans ?_
          refine (rn_inc d_X_which_131 rfl (c := 1) (by decide) (ls' := [some (.ref 1), some (.int x1), some (.int x2), some (.int x3), some (.int x4), some (.int (x5 ||| 0)), some (.int (x6 + 1))]) rfl).trans ?_
          refine (rn_goto d_X_which_134 (t := 46) (by decide)).trans ?_
          rfl
        · refine (rn_ld d_X_which_119 rfl rfl rfl rfl).trans ?_
          refine (rn_sI d_X_which_121 nb_3_177 (zinv_s l_3_177 (by decide) (Nat.le_of_ble_eq_true rfl) rfl rfl (Nat.le_of_ble_eq_true rfl)) (Nat.le_of_ble_eq_true rfl) (Or.inl rfl)).trans (zbI_congr fun v11 h10 => ?_)
          refine (rn_goto d_X_which_124 (t := 128) (by decide)).trans ?_
          refine (rn_a2 d_X_which_128 rfl).trans ?_
          refine (rn_st d_X_which_129 rfl rfl rfl (by decide) rfl (Nat.le_of_ble_eq_true rfl) (ls' := [some (.ref 1), some (.int x1), some (.int x2), some (.int x3), some (.int x4), some (.int (x5 ||| v11)), some (.int x6)]) rfl).trans ?_
          refine (rn_inc d_X_which_131 rfl (c := 1) (by decide) (ls' := [some (.ref 1), some (.int x1), some (.int x2), some (.int x3), some (.int x4), some (.int (x5 ||| v11)), some (.int (x6 + 1))]) rfl).trans ?_
          refine (rn_goto d_X_which_134 (t := 46) (by decide)).trans ?_
          rfl
      · refine (rn_ld d_X_which_99 rfl rfl rfl rfl).trans ?_
        refine (rn_gr d_X_which_100 f_3_16 zc_1 zr_1_1).trans ?_
        refine (rn_ld d_X_which_103 rfl rfl rfl rfl).trans ?_
        refine (rn_ld d_X_which_104 rfl rfl rfl rfl).trans ?_
        refine (rn_vV d_X_which_106 (zinv_v l_3_129 (by decide) (Nat.le_of_ble_eq_true rfl) rfl rfl zc_8 (Nat.le_of_ble_eq_true rfl)) (Nat.le_of_ble_eq_true rfl) rfl).trans (zbV_congr fun h12 => ?_)
        refine (rn_ld d_X_which_109 rfl rfl rfl rfl).trans ?_
        refine (rn_ld d_X_which_111 rfl rfl rfl rfl).trans ?_
        refine (rn_ld d_X_which_112 rfl rfl rfl rfl).trans ?_
        refine (rn_vI d_X_which_113 (zinv_v l_3_201 (by decide) (Nat.le_of_ble_eq_true rfl) rfl rfl zc_1 (Nat.le_of_ble_eq_true rfl)) (Nat.le_of_ble_eq_true rfl) (Or.inr rfl)).trans (zbI_congr fun v14 h13 => ?_)
        refine (rn_if_eq d_X_which_116 (t := 127) (by decide)).trans (zif ?_ ?_)
        · refine (rn_push d_X_which_127 zcs_iconst_0).trans ?_
          refine (rn_a2 d_X_which_128 rfl).trans ?_
          refine (rn_st d_X_which_129 rfl rfl rfl (by decide) rfl (Nat.le_of_ble_eq_true rfl) (ls' := [some (.ref 1), some (.int x1), some (.int x2), some (.int x3), some (.int x4), some (.int (x5 ||| 0)), some (.int x6)]) rfl).trans ?_
          refine (rn_inc d_X_which_131 rfl (c := 1) (by decide) (ls' := [some (.ref 1), some (.int x1), some (.int x2), some (.int x3), some (.int x4), some (.int (x5 ||| 0)), some (.int (x6 + 1))]) rfl).trans ?_
          refine (rn_goto d_X_which_134 (t := 46) (by decide)).trans ?_
          rfl
        · refine (rn_ld d_X_which_119 rfl rfl rfl rfl).trans ?_
          refine (rn_sI d_X_which_121 nb_3_177 (zinv_s l_3_177 (by decide) (Nat.le_of_ble_eq_true rfl) rfl rfl (Nat.le_of_ble_eq_true rfl)) (Nat.le_of_ble_eq_true rfl) (Or.inl rfl)).trans (zbI_congr fun v16 h15 => ?_)
          refine (rn_goto d_X_which_124 (t := 128) (by decide)).trans ?_
          refine (rn_a2 d_X_which_128 rfl).trans ?_
          refine (rn_st d_X_which_129 rfl rfl rfl (by decide) rfl (Nat.le_of_ble_eq_true rfl) (ls' := [some (.ref 1), some (.int x1), some (.int x2), some (.int x3), some (.int x4), some (.int (x5 ||| v16)), some (.int x6)]) rfl).trans ?_
          refine (rn_inc d_X_which_131 rfl (c := 1) (by decide) (ls' := [some (.ref 1), some (.int x1), some (.int x2), some (.int x3), some (.int x4), some (.int (x5 ||| v16)), some (.int (x6 + 1))]) rfl).trans ?_
          refine (rn_goto d_X_which_134 (t := 46) (by decide)).trans ?_
          rfl
theorem e_X_which {X : zX} {x1 : Int32} {x2 : Int32} {h : zH} : zcf X m_X_which [.ref 1, .int x1, .int x2] h = (zbI (zcf X m_X_wrongWhat [.ref 1, .int x1, .int x2, .int 2] h) fun v2 h1 => (if v2 = 0 then zrn X 6 m_X_which 46 [some (.ref 1), some (.int x1), some (.int x2), some (.int v2), some (.int (if x2 = 0 then (6 : Int32) else (if x2 = 1 then (10 : Int32) else 4))), some (.int 0), some (.int 0)] [] h1 else (zbI (zcf X m_X_refuse [.ref 1, .int v2] h1) fun v6 h5 => (some (some (.int v6), h5))))) := by
  refine (zcf_run (Nat.le_of_ble_eq_true rfl)).trans ?_
  show zrn X 6 m_X_which 0 [some (.ref 1), some (.int x1), some (.int x2), none, none, none, none] [] h = _
  refine (rn_ld d_X_which_0 rfl rfl rfl rfl).trans ?_
  refine (rn_ld d_X_which_1 rfl rfl rfl rfl).trans ?_
  refine (rn_ld d_X_which_2 rfl rfl rfl rfl).trans ?_
  refine (rn_push d_X_which_3 zcs_iconst_2).trans ?_
  refine (rn_vI d_X_which_4 (zinv_v l_3_167 (by decide) (Nat.le_of_ble_eq_true rfl) rfl rfl zc_1 (Nat.le_of_ble_eq_true rfl)) (Nat.le_of_ble_eq_true rfl) (Or.inl rfl)).trans (zbI_congr fun v2 h1 => ?_)
  refine (rn_st d_X_which_7 rfl rfl rfl (by decide) rfl (Nat.le_of_ble_eq_true rfl) (ls' := [some (.ref 1), some (.int x1), some (.int x2), some (.int v2), none, none, none]) rfl).trans ?_
  refine (rn_ld d_X_which_8 rfl rfl rfl rfl).trans ?_
  refine (rn_if_eq d_X_which_9 (t := 18) (by decide)).trans (zif ?_ ?_)
  · refine (rn_ld d_X_which_18 rfl rfl rfl rfl).trans ?_
    refine Eq.trans (b := zrn X 6 m_X_which 38 [some (.ref 1), some (.int x1), some (.int x2), some (.int v2), none, none, none] [.int (if x2 = 0 then (6 : Int32) else (if x2 = 1 then (10 : Int32) else 4))] h1) ?_ ?_
    · refine (rn_if_ne d_X_which_19 (t := 27) (by decide)).trans ?_
      by_cases q3 : x2 = 0
      · simp only [if_pos q3]
        refine (rn_push d_X_which_22 zcs_bipush_6).trans ?_
        refine (rn_goto d_X_which_24 (t := 38) (by decide)).trans ?_
        all_goals rfl
      · simp only [if_neg q3]
        refine (rn_ld d_X_which_27 rfl rfl rfl rfl).trans ?_
        refine (rn_push d_X_which_28 zcs_iconst_1).trans ?_
        refine (rn_ic_ne d_X_which_29 (t := 37) (by decide)).trans ?_
        by_cases q4 : x2 = 1
        · simp only [if_pos q4]
          refine (rn_push d_X_which_32 zcs_bipush_10).trans ?_
          refine (rn_goto d_X_which_34 (t := 38) (by decide)).trans ?_
          all_goals rfl
        · simp only [if_neg q4]
          refine (rn_push d_X_which_37 zcs_iconst_4).trans ?_
          all_goals rfl
    refine (rn_st d_X_which_38 rfl rfl rfl (by decide) rfl (Nat.le_of_ble_eq_true rfl) (ls' := [some (.ref 1), some (.int x1), some (.int x2), some (.int v2), some (.int (if x2 = 0 then (6 : Int32) else (if x2 = 1 then (10 : Int32) else 4))), none, none]) rfl).trans ?_
    refine (rn_push d_X_which_40 zcs_iconst_0).trans ?_
    refine (rn_st d_X_which_41 rfl rfl rfl (by decide) rfl (Nat.le_of_ble_eq_true rfl) (ls' := [some (.ref 1), some (.int x1), some (.int x2), some (.int v2), some (.int (if x2 = 0 then (6 : Int32) else (if x2 = 1 then (10 : Int32) else 4))), some (.int 0), none]) rfl).trans ?_
    refine (rn_push d_X_which_43 zcs_iconst_0).trans ?_
    refine (rn_st d_X_which_44 rfl rfl rfl (by decide) rfl (Nat.le_of_ble_eq_true rfl) (ls' := [some (.ref 1), some (.int x1), some (.int x2), some (.int v2), some (.int (if x2 = 0 then (6 : Int32) else (if x2 = 1 then (10 : Int32) else 4))), some (.int 0), some (.int 0)]) rfl).trans ?_
    rfl
  · refine (rn_ld d_X_which_12 rfl rfl rfl rfl).trans ?_
    refine (rn_ld d_X_which_13 rfl rfl rfl rfl).trans ?_
    refine (rn_vI d_X_which_14 (zinv_v l_3_55 (by decide) (Nat.le_of_ble_eq_true rfl) rfl rfl zc_1 (Nat.le_of_ble_eq_true rfl)) (Nat.le_of_ble_eq_true rfl) (Or.inl rfl)).trans (zbI_congr fun v6 h5 => ?_)
    exact rn_ri d_X_which_17 rfl
theorem b_X_turnsAsTold_2 {X : zX} {x1 : Int32} {x2 : Int32} {h : zH} : zrn X 5 m_X_turnsAsTold 2 [some (.ref 1), some (.int x1), some (.int x2)] [] h = (if (h.1 1 8) ≤ x2 then (some (some (.int 1), h)) else (zbI (zcf X m_H_facesOf [.ref 8, .int x1] h) fun v2 h1 => (zbI (zcf X m_X_at [.ref 73, .int x2] h1) fun v4 h3 => (if v2 = v4 then (zbV (zcf X m_H_nightWithout [.ref 8, .int (-9)] h3) fun h5 => zrn X 5 m_X_turnsAsTold 2 [some (.ref 1), some (.int x1), some (.int (x2 + 1))] [] h5) else (some (some (.int 0), h3)))))) := by
  refine (rn_ld d_X_turnsAsTold_2 rfl rfl rfl rfl).trans ?_
  refine (rn_ld d_X_turnsAsTold_3 rfl rfl rfl rfl).trans ?_
  refine (rn_gi d_X_turnsAsTold_4 f_3_48 zc_1).trans ?_
  refine (rn_ic_ge d_X_turnsAsTold_7 (t := 46) (by decide)).trans (zif ?_ ?_)
  · refine (rn_push d_X_turnsAsTold_46 zcs_iconst_1).trans ?_
    exact rn_rz d_X_turnsAsTold_47 rfl (by decide)
  · refine (rn_ld d_X_turnsAsTold_10 rfl rfl rfl rfl).trans ?_
    refine (rn_gr d_X_turnsAsTold_11 f_3_16 zc_1 zr_1_1).trans ?_
    refine (rn_ld d_X_turnsAsTold_14 rfl rfl rfl rfl).trans ?_
    refine (rn_vI d_X_turnsAsTold_15 (zinv_v l_3_97 (by decide) (Nat.le_of_ble_eq_true rfl) rfl rfl zc_8 (Nat.le_of_ble_eq_true rfl)) (Nat.le_of_ble_eq_true rfl) (Or.inl rfl)).trans (zbI_congr fun v2 h1 => ?_)
    refine (rn_ld d_X_turnsAsTold_18 rfl rfl rfl rfl).trans ?_
    refine (rn_gr d_X_turnsAsTold_19 f_3_44 zc_1 zr_1_7).trans ?_
    refine (rn_ld d_X_turnsAsTold_22 rfl rfl rfl rfl).trans ?_
    refine (rn_sI d_X_turnsAsTold_23 nb_3_252 (zinv_s l_3_252 (by decide) (Nat.le_of_ble_eq_true rfl) rfl rfl (Nat.le_of_ble_eq_true rfl)) (Nat.le_of_ble_eq_true rfl) (Or.inl rfl)).trans (zbI_congr fun v4 h3 => ?_)
    refine (rn_ic_eq d_X_turnsAsTold_26 (t := 31) (by decide)).trans (zif ?_ ?_)
    · refine (rn_ld d_X_turnsAsTold_31 rfl rfl rfl rfl).trans ?_
      refine (rn_gr d_X_turnsAsTold_32 f_3_16 zc_1 zr_1_1).trans ?_
      refine (rn_push d_X_turnsAsTold_35 zcs_bipush_m9).trans ?_
      refine (rn_vV d_X_turnsAsTold_37 (zinv_v l_3_171 (by decide) (Nat.le_of_ble_eq_true rfl) rfl rfl zc_8 (Nat.le_of_ble_eq_true rfl)) (Nat.le_of_ble_eq_true rfl) rfl).trans (zbV_congr fun h5 => ?_)
      refine (rn_inc d_X_turnsAsTold_40 rfl (c := 1) (by decide) (ls' := [some (.ref 1), some (.int x1), some (.int (x2 + 1))]) rfl).trans ?_
      refine (rn_goto d_X_turnsAsTold_43 (t := 2) (by decide)).trans ?_
      rfl
    · refine (rn_push d_X_turnsAsTold_29 zcs_iconst_0).trans ?_
      exact rn_rz d_X_turnsAsTold_30 rfl (by decide)
theorem e_X_turnsAsTold {X : zX} {x1 : Int32} {h : zH} : zcf X m_X_turnsAsTold [.ref 1, .int x1] h = zrn X 5 m_X_turnsAsTold 2 [some (.ref 1), some (.int x1), some (.int 0)] [] h := by
  refine (zcf_run (Nat.le_of_ble_eq_true rfl)).trans ?_
  show zrn X 5 m_X_turnsAsTold 0 [some (.ref 1), some (.int x1), none] [] h = _
  refine (rn_push d_X_turnsAsTold_0 zcs_iconst_0).trans ?_
  refine (rn_st d_X_turnsAsTold_1 rfl rfl rfl (by decide) rfl (Nat.le_of_ble_eq_true rfl) (ls' := [some (.ref 1), some (.int x1), some (.int 0)]) rfl).trans ?_
  rfl
theorem b_X_bestStep_36 {X : zX} {x1 : Int32} {x2 : Int32} {x3 : Int32} {x4 : Int32} {g5 : Option Value} {g6 : Option Value} {h : zH} : zrn X 4 m_X_bestStep 36 [some (.ref 1), some (.int x1), some (.int x2), some (.int x3), some (.int x4), g5, g6] [] h = (if 4 < x4 then (some (some (.int x2), h)) else (zbI (zcf X m_H_cellOfStep [.ref 2, .int x1, .int x4] h) fun v2 h1 => (if v2 = (-1) then zrn X 4 m_X_bestStep 36 [some (.ref 1), some (.int x1), some (.int x2), some (.int x3), some (.int (x4 + 1)), some (.int v2), g6] [] h1 else (zbV (zcf X m_H_place [.ref 8, .int x1, .int v2] h1) fun h3 => (zbI (zcf X m_H_watchers [.ref 8, .int x1] h3) fun v5 h4 => (zbI (zcf X m_J_bitCount [.int v5] h4) fun v7 h6 => zrn X 4 m_X_bestStep 36 [some (.ref 1), some (.int x1), some (.int (if x3 ≤ v7 then x2 else x4)), some (.int (if x3 ≤ v7 then x3 else v7)), some (.int (x4 + 1)), some (.int v2), some (.int v7)] [] h6)))))) := by
  refine (rn_ld d_X_bestStep_36 rfl rfl rfl rfl).trans ?_
  refine (rn_push d_X_bestStep_38 zcs_iconst_4).trans ?_
  refine (rn_ic_gt d_X_bestStep_39 (t := 101) (by decide)).trans (zif ?_ ?_)
  · refine (rn_ld d_X_bestStep_101 rfl rfl rfl rfl).trans ?_
    exact rn_ri d_X_bestStep_102 rfl
  · refine (rn_ld d_X_bestStep_42 rfl rfl rfl rfl).trans ?_
    refine (rn_gr d_X_bestStep_43 f_3_10 zc_1 zr_1_0).trans ?_
    refine (rn_ld d_X_bestStep_46 rfl rfl rfl rfl).trans ?_
    refine (rn_ld d_X_bestStep_47 rfl rfl rfl rfl).trans ?_
    refine (rn_vI d_X_bestStep_49 (zinv_v l_3_204 (by decide) (Nat.le_of_ble_eq_true rfl) rfl rfl zc_2 (Nat.le_of_ble_eq_true rfl)) (Nat.le_of_ble_eq_true rfl) (Or.inl rfl)).trans (zbI_congr fun v2 h1 => ?_)
    refine (rn_st d_X_bestStep_52 rfl rfl rfl (by decide) rfl (Nat.le_of_ble_eq_true rfl) (ls' := [some (.ref 1), some (.int x1), some (.int x2), some (.int x3), some (.int x4), some (.int v2), g6]) rfl).trans ?_
    refine (rn_ld d_X_bestStep_54 rfl rfl rfl rfl).trans ?_
    refine (rn_push d_X_bestStep_56 zcs_iconst_m1).trans ?_
    refine (rn_ic_eq d_X_bestStep_57 (t := 95) (by decide)).trans (zif ?_ ?_)
    · refine (rn_inc d_X_bestStep_95 rfl (c := 1) (by decide) (ls' := [some (.ref 1), some (.int x1), some (.int x2), some (.int x3), some (.int (x4 + 1)), some (.int v2), g6]) rfl).trans ?_
      refine (rn_goto d_X_bestStep_98 (t := 36) (by decide)).trans ?_
      rfl
    · refine (rn_ld d_X_bestStep_60 rfl rfl rfl rfl).trans ?_
      refine (rn_gr d_X_bestStep_61 f_3_16 zc_1 zr_1_1).trans ?_
      refine (rn_ld d_X_bestStep_64 rfl rfl rfl rfl).trans ?_
      refine (rn_ld d_X_bestStep_65 rfl rfl rfl rfl).trans ?_
      refine (rn_vV d_X_bestStep_67 (zinv_v l_3_133 (by decide) (Nat.le_of_ble_eq_true rfl) rfl rfl zc_8 (Nat.le_of_ble_eq_true rfl)) (Nat.le_of_ble_eq_true rfl) rfl).trans (zbV_congr fun h3 => ?_)
      refine (rn_ld d_X_bestStep_70 rfl rfl rfl rfl).trans ?_
      refine (rn_gr d_X_bestStep_71 f_3_16 zc_1 zr_1_1).trans ?_
      refine (rn_ld d_X_bestStep_74 rfl rfl rfl rfl).trans ?_
      refine (rn_vI d_X_bestStep_75 (zinv_v l_3_164 (by decide) (Nat.le_of_ble_eq_true rfl) rfl rfl zc_8 (Nat.le_of_ble_eq_true rfl)) (Nat.le_of_ble_eq_true rfl) (Or.inl rfl)).trans (zbI_congr fun v5 h4 => ?_)
      refine (rn_sI d_X_bestStep_78 nb_3_207 (zinv_s l_3_207 (by decide) (Nat.le_of_ble_eq_true rfl) rfl rfl (Nat.le_of_ble_eq_true rfl)) (Nat.le_of_ble_eq_true rfl) (Or.inl rfl)).trans (zbI_congr fun v7 h6 => ?_)
      refine (rn_st d_X_bestStep_81 rfl rfl rfl (by decide) rfl (Nat.le_of_ble_eq_true rfl) (ls' := [some (.ref 1), some (.int x1), some (.int x2), some (.int x3), some (.int x4), some (.int v2), some (.int v7)]) rfl).trans ?_
      refine (rn_ld d_X_bestStep_83 rfl rfl rfl rfl).trans ?_
      refine (rn_ld d_X_bestStep_85 rfl rfl rfl rfl).trans ?_
      refine Eq.trans (b := zrn X 4 m_X_bestStep 95 [some (.ref 1), some (.int x1), some (.int (if x3 ≤ v7 then x2 else x4)), some (.int (if x3 ≤ v7 then x3 else v7)), some (.int x4), some (.int v2), some (.int v7)] [] h6) ?_ ?_
      · refine (rn_ic_ge d_X_bestStep_86 (t := 95) (by decide)).trans ?_
        by_cases q8 : x3 ≤ v7
        · simp only [if_pos q8]
          all_goals rfl
        · simp only [if_neg q8]
          refine (rn_ld d_X_bestStep_89 rfl rfl rfl rfl).trans ?_
          refine (rn_st d_X_bestStep_91 rfl rfl rfl (by decide) rfl (Nat.le_of_ble_eq_true rfl) (ls' := [some (.ref 1), some (.int x1), some (.int x2), some (.int v7), some (.int x4), some (.int v2), some (.int v7)]) rfl).trans ?_
          refine (rn_ld d_X_bestStep_92 rfl rfl rfl rfl).trans ?_
          refine (rn_st d_X_bestStep_94 rfl rfl rfl (by decide) rfl (Nat.le_of_ble_eq_true rfl) (ls' := [some (.ref 1), some (.int x1), some (.int x4), some (.int v7), some (.int x4), some (.int v2), some (.int v7)]) rfl).trans ?_
          all_goals rfl
      refine (rn_inc d_X_bestStep_95 rfl (c := 1) (by decide) (ls' := [some (.ref 1), some (.int x1), some (.int (if x3 ≤ v7 then x2 else x4)), some (.int (if x3 ≤ v7 then x3 else v7)), some (.int (x4 + 1)), some (.int v2), some (.int v7)]) rfl).trans ?_
      refine (rn_goto d_X_bestStep_98 (t := 36) (by decide)).trans ?_
      rfl
theorem e_X_bestStep {X : zX} {x1 : Int32} {h : zH} : zcf X m_X_bestStep [.ref 1, .int x1] h = (zbI (zcf X m_H_has [.ref 2, .int x1] h) fun v2 h1 => (if v2 = 0 then (zbI (zcf X m_X_refuse [.ref 1, .int (-1)] h1) fun v4 h3 => (some (some (.int v4), h3))) else (zbV (zcf X m_H_become [.ref 8, .ref 2] h1) fun h5 => zrn X 4 m_X_bestStep 36 [some (.ref 1), some (.int x1), some (.int 4), some (.int 7), some (.int 0), none, none] [] h5))) := by
  refine (zcf_run (Nat.le_of_ble_eq_true rfl)).trans ?_
  show zrn X 4 m_X_bestStep 0 [some (.ref 1), some (.int x1), none, none, none, none, none] [] h = _
  refine (rn_ld d_X_bestStep_0 rfl rfl rfl rfl).trans ?_
  refine (rn_gr d_X_bestStep_1 f_3_10 zc_1 zr_1_0).trans ?_
  refine (rn_ld d_X_bestStep_4 rfl rfl rfl rfl).trans ?_
  refine (rn_vI d_X_bestStep_5 (zinv_v l_3_85 (by decide) (Nat.le_of_ble_eq_true rfl) rfl rfl zc_2 (Nat.le_of_ble_eq_true rfl)) (Nat.le_of_ble_eq_true rfl) (Or.inr rfl)).trans (zbI_congr fun v2 h1 => ?_)
  refine (rn_if_ne d_X_bestStep_8 (t := 17) (by decide)).trans (zif ?_ ?_)
  · refine (rn_ld d_X_bestStep_11 rfl rfl rfl rfl).trans ?_
    refine (rn_push d_X_bestStep_12 zcs_iconst_m1).trans ?_
    refine (rn_vI d_X_bestStep_13 (zinv_v l_3_55 (by decide) (Nat.le_of_ble_eq_true rfl) rfl rfl zc_1 (Nat.le_of_ble_eq_true rfl)) (Nat.le_of_ble_eq_true rfl) (Or.inl rfl)).trans (zbI_congr fun v4 h3 => ?_)
    exact rn_ri d_X_bestStep_16 rfl
  · refine (rn_ld d_X_bestStep_17 rfl rfl rfl rfl).trans ?_
    refine (rn_gr d_X_bestStep_18 f_3_16 zc_1 zr_1_1).trans ?_
    refine (rn_ld d_X_bestStep_21 rfl rfl rfl rfl).trans ?_
    refine (rn_gr d_X_bestStep_22 f_3_10 zc_1 zr_1_0).trans ?_
    refine (rn_vV d_X_bestStep_25 (zinv_v l_3_69 (by decide) (Nat.le_of_ble_eq_true rfl) rfl rfl zc_8 (Nat.le_of_ble_eq_true rfl)) (Nat.le_of_ble_eq_true rfl) rfl).trans (zbV_congr fun h5 => ?_)
    refine (rn_push d_X_bestStep_28 zcs_iconst_4).trans ?_
    refine (rn_st d_X_bestStep_29 rfl rfl rfl (by decide) rfl (Nat.le_of_ble_eq_true rfl) (ls' := [some (.ref 1), some (.int x1), some (.int 4), none, none, none, none]) rfl).trans ?_
    refine (rn_push d_X_bestStep_30 zcs_bipush_7).trans ?_
    refine (rn_st d_X_bestStep_32 rfl rfl rfl (by decide) rfl (Nat.le_of_ble_eq_true rfl) (ls' := [some (.ref 1), some (.int x1), some (.int 4), some (.int 7), none, none, none]) rfl).trans ?_
    refine (rn_push d_X_bestStep_33 zcs_iconst_0).trans ?_
    refine (rn_st d_X_bestStep_34 rfl rfl rfl (by decide) rfl (Nat.le_of_ble_eq_true rfl) (ls' := [some (.ref 1), some (.int x1), some (.int 4), some (.int 7), some (.int 0), none, none]) rfl).trans ?_
    rfl
theorem b_X_two_20 {X : zX} {x1 : Int32} {x2 : Int32} {x3 : Int32} {x4 : Int32} {h : zH} : zrn X 4 m_X_two 20 [some (.ref 1), some (.int x1), some (.int x2), some (.int x3), some (.int x4), none, none] [] h = (if 4 < x4 then (zbI (zcf X m_X_stepsSeenByFaces [.ref 1, .int x1, .int x2] h) fun v2 h1 => zrn X 4 m_X_two 69 [some (.ref 1), some (.int x1), some (.int x2), some (.int x3), some (.int v2), some (.int 0), none] [] h1) else (zbI (zcf X m_H_cellOfStep [.ref 2, .int x2, .int x4] h) fun v4 h3 => (if v4 = (-1) then zrn X 4 m_X_two 20 [some (.ref 1), some (.int x1), some (.int x2), some (.int (x3 ||| 0)), some (.int (x4 + 1)), none, none] [] h3 else (zbI (zcf X m_X_bitOf [.int x4] h3) fun v6 h5 => zrn X 4 m_X_two 20 [some (.ref 1), some (.int x1), some (.int x2), some (.int (x3 ||| v6)), some (.int (x4 + 1)), none, none] [] h5)))) := by
  refine (rn_ld d_X_two_20 rfl rfl rfl rfl).trans ?_
  refine (rn_push d_X_two_22 zcs_iconst_4).trans ?_
  refine (rn_ic_gt d_X_two_23 (t := 58) (by decide)).trans (zif ?_ ?_)
  · refine (rn_ld d_X_two_58 rfl rfl rfl rfl).trans ?_
    refine (rn_ld d_X_two_59 rfl rfl rfl rfl).trans ?_
    refine (rn_ld d_X_two_60 rfl rfl rfl rfl).trans ?_
    refine (rn_vI d_X_two_61 (zinv_v l_3_216 (by decide) (Nat.le_of_ble_eq_true rfl) rfl rfl zc_1 (Nat.le_of_ble_eq_true rfl)) (Nat.le_of_ble_eq_true rfl) (Or.inl rfl)).trans (zbI_congr fun v2 h1 => ?_)
    refine (rn_st d_X_two_64 rfl rfl rfl (by decide) rfl (Nat.le_of_ble_eq_true rfl) (ls' := [some (.ref 1), some (.int x1), some (.int x2), some (.int x3), some (.int v2), none, none]) rfl).trans ?_
    refine (rn_push d_X_two_66 zcs_iconst_0).trans ?_
    refine (rn_st d_X_two_67 rfl rfl rfl (by decide) rfl (Nat.le_of_ble_eq_true rfl) (ls' := [some (.ref 1), some (.int x1), some (.int x2), some (.int x3), some (.int v2), some (.int 0), none]) rfl).trans ?_
    rfl
  · refine (rn_ld d_X_two_26 rfl rfl rfl rfl).trans ?_
    refine (rn_ld d_X_two_27 rfl rfl rfl rfl).trans ?_
    refine (rn_gr d_X_two_28 f_3_10 zc_1 zr_1_0).trans ?_
    refine (rn_ld d_X_two_31 rfl rfl rfl rfl).trans ?_
    refine (rn_ld d_X_two_32 rfl rfl rfl rfl).trans ?_
    refine (rn_vI d_X_two_34 (zinv_v l_3_204 (by decide) (Nat.le_of_ble_eq_true rfl) rfl rfl zc_2 (Nat.le_of_ble_eq_true rfl)) (Nat.le_of_ble_eq_true rfl) (Or.inl rfl)).trans (zbI_congr fun v4 h3 => ?_)
    refine (rn_push d_X_two_37 zcs_iconst_m1).trans ?_
    refine (rn_ic_eq d_X_two_38 (t := 49) (by decide)).trans (zif ?_ ?_)
    · refine (rn_push d_X_two_49 zcs_iconst_0).trans ?_
      refine (rn_a2 d_X_two_50 rfl).trans ?_
      refine (rn_st d_X_two_51 rfl rfl rfl (by decide) rfl (Nat.le_of_ble_eq_true rfl) (ls' := [some (.ref 1), some (.int x1), some (.int x2), some (.int (x3 ||| 0)), some (.int x4), none, none]) rfl).trans ?_
      refine (rn_inc d_X_two_52 rfl (c := 1) (by decide) (ls' := [some (.ref 1), some (.int x1), some (.int x2), some (.int (x3 ||| 0)), some (.int (x4 + 1)), none, none]) rfl).trans ?_
      refine (rn_goto d_X_two_55 (t := 20) (by decide)).trans ?_
      rfl
    · refine (rn_ld d_X_two_41 rfl rfl rfl rfl).trans ?_
      refine (rn_sI d_X_two_43 nb_3_177 (zinv_s l_3_177 (by decide) (Nat.le_of_ble_eq_true rfl) rfl rfl (Nat.le_of_ble_eq_true rfl)) (Nat.le_of_ble_eq_true rfl) (Or.inl rfl)).trans (zbI_congr fun v6 h5 => ?_)
      refine (rn_goto d_X_two_46 (t := 50) (by decide)).trans ?_
      refine (rn_a2 d_X_two_50 rfl).trans ?_
      refine (rn_st d_X_two_51 rfl rfl rfl (by decide) rfl (Nat.le_of_ble_eq_true rfl) (ls' := [some (.ref 1), some (.int x1), some (.int x2), some (.int (x3 ||| v6)), some (.int x4), none, none]) rfl).trans ?_
      refine (rn_inc d_X_two_52 rfl (c := 1) (by decide) (ls' := [some (.ref 1), some (.int x1), some (.int x2), some (.int (x3 ||| v6)), some (.int (x4 + 1)), none, none]) rfl).trans ?_
      refine (rn_goto d_X_two_55 (t := 20) (by decide)).trans ?_
      rfl
theorem b_X_two_69 {X : zX} {x1 : Int32} {x2 : Int32} {x3 : Int32} {x4 : Int32} {x5 : Int32} {g6 : Option Value} {h : zH} : zrn X 4 m_X_two 69 [some (.ref 1), some (.int x1), some (.int x2), some (.int x3), some (.int x4), some (.int x5), g6] [] h = (if 4 ≤ x5 then (some (some (.int (-9)), h)) else zrn X 4 m_X_two 78 [some (.ref 1), some (.int x1), some (.int x2), some (.int x3), some (.int x4), some (.int x5), some (.int 0)] [] h) := by
  refine (rn_ld d_X_two_69 rfl rfl rfl rfl).trans ?_
  refine (rn_push d_X_two_71 zcs_iconst_4).trans ?_
  refine (rn_ic_ge d_X_two_72 (t := 128) (by decide)).trans (zif ?_ ?_)
  · refine (rn_push d_X_two_128 zcs_bipush_m9).trans ?_
    exact rn_ri d_X_two_130 rfl
  · refine (rn_push d_X_two_75 zcs_iconst_0).trans ?_
    refine (rn_st d_X_two_76 rfl rfl rfl (by decide) rfl (Nat.le_of_ble_eq_true rfl) (ls' := [some (.ref 1), some (.int x1), some (.int x2), some (.int x3), some (.int x4), some (.int x5), some (.int 0)]) rfl).trans ?_
    rfl
theorem b_X_two_78 {X : zX} {x1 : Int32} {x2 : Int32} {x3 : Int32} {x4 : Int32} {x5 : Int32} {x6 : Int32} {h : zH} : zrn X 4 m_X_two 78 [some (.ref 1), some (.int x1), some (.int x2), some (.int x3), some (.int x4), some (.int x5), some (.int x6)] [] h = (if 4 < x6 then zrn X 4 m_X_two 69 [some (.ref 1), some (.int x1), some (.int x2), some (.int x3), some (.int x4), some (.int (x5 + 1)), some (.int x6)] [] h else (zbI (zcf X m_X_bitOf [.int x6] h) fun v2 h1 => (if (x3 &&& v2) = 0 then zrn X 4 m_X_two 78 [some (.ref 1), some (.int x1), some (.int x2), some (.int x3), some (.int x4), some (.int x5), some (.int (x6 + 1))] [] h1 else (zbI (zcf X m_X_neitherHasBetter [.int x4, .int x3, .int x5, .int x6] h1) fun v4 h3 => (if v4 = 0 then zrn X 4 m_X_two 78 [some (.ref 1), some (.int x1), some (.int x2), some (.int x3), some (.int x4), some (.int x5), some (.int (x6 + 1))] [] h3 else (some (some (.int ((10 * x5) + x6)), h3))))))) := by
  refine (rn_ld d_X_two_78 rfl rfl rfl rfl).trans ?_
  refine (rn_push d_X_two_80 zcs_iconst_4).trans ?_
  refine (rn_ic_gt d_X_two_81 (t := 122) (by decide)).trans (zif ?_ ?_)
  · refine (rn_inc d_X_two_122 rfl (c := 1) (by decide) (ls' := [some (.ref 1), some (.int x1), some (.int x2), some (.int x3), some (.int x4), some (.int (x5 + 1)), some (.int x6)]) rfl).trans ?_
    refine (rn_goto d_X_two_125 (t := 69) (by decide)).trans ?_
    rfl
  · refine (rn_ld d_X_two_84 rfl rfl rfl rfl).trans ?_
    refine (rn_ld d_X_two_85 rfl rfl rfl rfl).trans ?_
    refine (rn_sI d_X_two_87 nb_3_177 (zinv_s l_3_177 (by decide) (Nat.le_of_ble_eq_true rfl) rfl rfl (Nat.le_of_ble_eq_true rfl)) (Nat.le_of_ble_eq_true rfl) (Or.inl rfl)).trans (zbI_congr fun v2 h1 => ?_)
    refine (rn_a2 d_X_two_90 rfl).trans ?_
    refine (rn_if_eq d_X_two_91 (t := 116) (by decide)).trans (zif ?_ ?_)
    · refine (rn_inc d_X_two_116 rfl (c := 1) (by decide) (ls' := [some (.ref 1), some (.int x1), some (.int x2), some (.int x3), some (.int x4), some (.int x5), some (.int (x6 + 1))]) rfl).trans ?_
      refine (rn_goto d_X_two_119 (t := 78) (by decide)).trans ?_
      rfl
    · refine (rn_ld d_X_two_94 rfl rfl rfl rfl).trans ?_
      refine (rn_ld d_X_two_96 rfl rfl rfl rfl).trans ?_
      refine (rn_ld d_X_two_97 rfl rfl rfl rfl).trans ?_
      refine (rn_ld d_X_two_99 rfl rfl rfl rfl).trans ?_
      refine (rn_sI d_X_two_101 nb_3_219 (zinv_s l_3_219 (by decide) (Nat.le_of_ble_eq_true rfl) rfl rfl (Nat.le_of_ble_eq_true rfl)) (Nat.le_of_ble_eq_true rfl) (Or.inr rfl)).trans (zbI_congr fun v4 h3 => ?_)
      refine (rn_if_eq d_X_two_104 (t := 116) (by decide)).trans (zif ?_ ?_)
      · refine (rn_inc d_X_two_116 rfl (c := 1) (by decide) (ls' := [some (.ref 1), some (.int x1), some (.int x2), some (.int x3), some (.int x4), some (.int x5), some (.int (x6 + 1))]) rfl).trans ?_
        refine (rn_goto d_X_two_119 (t := 78) (by decide)).trans ?_
        rfl
      · refine (rn_push d_X_two_107 zcs_bipush_10).trans ?_
        refine (rn_ld d_X_two_109 rfl rfl rfl rfl).trans ?_
        refine (rn_a2 d_X_two_111 rfl).trans ?_
        refine (rn_ld d_X_two_112 rfl rfl rfl rfl).trans ?_
        refine (rn_a2 d_X_two_114 rfl).trans ?_
        exact rn_ri d_X_two_115 rfl
theorem e_X_two {X : zX} {x1 : Int32} {x2 : Int32} {h : zH} : zcf X m_X_two [.ref 1, .int x1, .int x2] h = (zbI (zcf X m_X_areTwo [.ref 1, .int x1, .int x2] h) fun v2 h1 => (if v2 = 0 then (zbI (zcf X m_X_refuse [.ref 1, .int (-1)] h1) fun v4 h3 => (some (some (.int v4), h3))) else zrn X 4 m_X_two 20 [some (.ref 1), some (.int x1), some (.int x2), some (.int 0), some (.int 0), none, none] [] h1)) := by
  refine (zcf_run (Nat.le_of_ble_eq_true rfl)).trans ?_
  show zrn X 4 m_X_two 0 [some (.ref 1), some (.int x1), some (.int x2), none, none, none, none] [] h = _
  refine (rn_ld d_X_two_0 rfl rfl rfl rfl).trans ?_
  refine (rn_ld d_X_two_1 rfl rfl rfl rfl).trans ?_
  refine (rn_ld d_X_two_2 rfl rfl rfl rfl).trans ?_
  refine (rn_vI d_X_two_3 (zinv_v l_3_212 (by decide) (Nat.le_of_ble_eq_true rfl) rfl rfl zc_1 (Nat.le_of_ble_eq_true rfl)) (Nat.le_of_ble_eq_true rfl) (Or.inr rfl)).trans (zbI_congr fun v2 h1 => ?_)
  refine (rn_if_ne d_X_two_6 (t := 15) (by decide)).trans (zif ?_ ?_)
  · refine (rn_ld d_X_two_9 rfl rfl rfl rfl).trans ?_
    refine (rn_push d_X_two_10 zcs_iconst_m1).trans ?_
    refine (rn_vI d_X_two_11 (zinv_v l_3_55 (by decide) (Nat.le_of_ble_eq_true rfl) rfl rfl zc_1 (Nat.le_of_ble_eq_true rfl)) (Nat.le_of_ble_eq_true rfl) (Or.inl rfl)).trans (zbI_congr fun v4 h3 => ?_)
    exact rn_ri d_X_two_14 rfl
  · refine (rn_push d_X_two_15 zcs_iconst_0).trans ?_
    refine (rn_st d_X_two_16 rfl rfl rfl (by decide) rfl (Nat.le_of_ble_eq_true rfl) (ls' := [some (.ref 1), some (.int x1), some (.int x2), some (.int 0), none, none, none]) rfl).trans ?_
    refine (rn_push d_X_two_17 zcs_iconst_0).trans ?_
    refine (rn_st d_X_two_18 rfl rfl rfl (by decide) rfl (Nat.le_of_ble_eq_true rfl) (ls' := [some (.ref 1), some (.int x1), some (.int x2), some (.int 0), some (.int 0), none, none]) rfl).trans ?_
    rfl
theorem e_X_areTwo {X : zX} {x1 : Int32} {x2 : Int32} {h : zH} : zcf X m_X_areTwo [.ref 1, .int x1, .int x2] h = (zbI (zcf X m_H_has [.ref 2, .int x1] h) fun v2 h1 => (if v2 = 0 then (some (some (.int 0), h1)) else (zbI (zcf X m_H_has [.ref 2, .int x2] h1) fun v4 h3 => (if v4 = 0 then (some (some (.int 0), h3)) else (if x1 = x2 then (some (some (.int 0), h3)) else (some (some (.int 1), h3))))))) := by
  refine (zcf_run (Nat.le_of_ble_eq_true rfl)).trans ?_
  show zrn X 1 m_X_areTwo 0 [some (.ref 1), some (.int x1), some (.int x2)] [] h = _
  refine (rn_ld d_X_areTwo_0 rfl rfl rfl rfl).trans ?_
  refine (rn_gr d_X_areTwo_1 f_3_10 zc_1 zr_1_0).trans ?_
  refine (rn_ld d_X_areTwo_4 rfl rfl rfl rfl).trans ?_
  refine (rn_vI d_X_areTwo_5 (zinv_v l_3_85 (by decide) (Nat.le_of_ble_eq_true rfl) rfl rfl zc_2 (Nat.le_of_ble_eq_true rfl)) (Nat.le_of_ble_eq_true rfl) (Or.inr rfl)).trans (zbI_congr fun v2 h1 => ?_)
  refine (rn_if_eq d_X_areTwo_8 (t := 31) (by decide)).trans (zif ?_ ?_)
  · refine (rn_push d_X_areTwo_31 zcs_iconst_0).trans ?_
    exact rn_rz d_X_areTwo_32 rfl (by decide)
  · refine (rn_ld d_X_areTwo_11 rfl rfl rfl rfl).trans ?_
    refine (rn_gr d_X_areTwo_12 f_3_10 zc_1 zr_1_0).trans ?_
    refine (rn_ld d_X_areTwo_15 rfl rfl rfl rfl).trans ?_
    refine (rn_vI d_X_areTwo_16 (zinv_v l_3_85 (by decide) (Nat.le_of_ble_eq_true rfl) rfl rfl zc_2 (Nat.le_of_ble_eq_true rfl)) (Nat.le_of_ble_eq_true rfl) (Or.inr rfl)).trans (zbI_congr fun v4 h3 => ?_)
    refine (rn_if_eq d_X_areTwo_19 (t := 31) (by decide)).trans (zif ?_ ?_)
    · refine (rn_push d_X_areTwo_31 zcs_iconst_0).trans ?_
      exact rn_rz d_X_areTwo_32 rfl (by decide)
    · refine (rn_ld d_X_areTwo_22 rfl rfl rfl rfl).trans ?_
      refine (rn_ld d_X_areTwo_23 rfl rfl rfl rfl).trans ?_
      refine (rn_ic_eq d_X_areTwo_24 (t := 31) (by decide)).trans (zif ?_ ?_)
      · refine (rn_push d_X_areTwo_31 zcs_iconst_0).trans ?_
        exact rn_rz d_X_areTwo_32 rfl (by decide)
      · refine (rn_push d_X_areTwo_27 zcs_iconst_1).trans ?_
        refine (rn_goto d_X_areTwo_28 (t := 32) (by decide)).trans ?_
        exact rn_rz d_X_areTwo_32 rfl (by decide)
theorem b_X_stepsSeenByFaces_16 {X : zX} {x1 : Int32} {x2 : Int32} {x3 : Int32} {x4 : Int32} {g5 : Option Value} {g6 : Option Value} {g7 : Option Value} {h : zH} : zrn X 3 m_X_stepsSeenByFaces 16 [some (.ref 1), some (.int x1), some (.int x2), some (.int x3), some (.int x4), g5, g6, g7] [] h = (if 4 < x4 then (some (some (.int x3), h)) else (zbI (zcf X m_H_cellOfStep [.ref 2, .int x2, .int x4] h) fun v2 h1 => (if v2 = (-1) then zrn X 3 m_X_stepsSeenByFaces 16 [some (.ref 1), some (.int x1), some (.int x2), some (.int x3), some (.int (x4 + 1)), some (.int v2), g6, g7] [] h1 else (zbV (zcf X m_H_place [.ref 8, .int x2, .int v2] h1) fun h3 => zrn X 3 m_X_stepsSeenByFaces 53 [some (.ref 1), some (.int x1), some (.int x2), some (.int x3), some (.int x4), some (.int v2), some (.int 0), g7] [] h3)))) := by
  refine (rn_ld d_X_stepsSeenByFaces_16 rfl rfl rfl rfl).trans ?_
  refine (rn_push d_X_stepsSeenByFaces_18 zcs_iconst_4).trans ?_
  refine (rn_ic_gt d_X_stepsSeenByFaces_19 (t := 131) (by decide)).trans (zif ?_ ?_)
  · refine (rn_ld d_X_stepsSeenByFaces_131 rfl rfl rfl rfl).trans ?_
    exact rn_ri d_X_stepsSeenByFaces_132 rfl
  · refine (rn_ld d_X_stepsSeenByFaces_22 rfl rfl rfl rfl).trans ?_
    refine (rn_gr d_X_stepsSeenByFaces_23 f_3_10 zc_1 zr_1_0).trans ?_
    refine (rn_ld d_X_stepsSeenByFaces_26 rfl rfl rfl rfl).trans ?_
    refine (rn_ld d_X_stepsSeenByFaces_27 rfl rfl rfl rfl).trans ?_
    refine (rn_vI d_X_stepsSeenByFaces_29 (zinv_v l_3_204 (by decide) (Nat.le_of_ble_eq_true rfl) rfl rfl zc_2 (Nat.le_of_ble_eq_true rfl)) (Nat.le_of_ble_eq_true rfl) (Or.inl rfl)).trans (zbI_congr fun v2 h1 => ?_)
    refine (rn_st d_X_stepsSeenByFaces_32 rfl rfl rfl (by decide) rfl (Nat.le_of_ble_eq_true rfl) (ls' := [some (.ref 1), some (.int x1), some (.int x2), some (.int x3), some (.int x4), some (.int v2), g6, g7]) rfl).trans ?_
    refine (rn_ld d_X_stepsSeenByFaces_34 rfl rfl rfl rfl).trans ?_
    refine (rn_push d_X_stepsSeenByFaces_36 zcs_iconst_m1).trans ?_
    refine (rn_ic_eq d_X_stepsSeenByFaces_37 (t := 125) (by decide)).trans (zif ?_ ?_)
    · refine (rn_inc d_X_stepsSeenByFaces_125 rfl (c := 1) (by decide) (ls' := [some (.ref 1), some (.int x1), some (.int x2), some (.int x3), some (.int (x4 + 1)), some (.int v2), g6, g7]) rfl).trans ?_
      refine (rn_goto d_X_stepsSeenByFaces_128 (t := 16) (by decide)).trans ?_
      rfl
    · refine (rn_ld d_X_stepsSeenByFaces_40 rfl rfl rfl rfl).trans ?_
      refine (rn_gr d_X_stepsSeenByFaces_41 f_3_16 zc_1 zr_1_1).trans ?_
      refine (rn_ld d_X_stepsSeenByFaces_44 rfl rfl rfl rfl).trans ?_
      refine (rn_ld d_X_stepsSeenByFaces_45 rfl rfl rfl rfl).trans ?_
      refine (rn_vV d_X_stepsSeenByFaces_47 (zinv_v l_3_133 (by decide) (Nat.le_of_ble_eq_true rfl) rfl rfl zc_8 (Nat.le_of_ble_eq_true rfl)) (Nat.le_of_ble_eq_true rfl) rfl).trans (zbV_congr fun h3 => ?_)
      refine (rn_push d_X_stepsSeenByFaces_50 zcs_iconst_0).trans ?_
      refine (rn_st d_X_stepsSeenByFaces_51 rfl rfl rfl (by decide) rfl (Nat.le_of_ble_eq_true rfl) (ls' := [some (.ref 1), some (.int x1), some (.int x2), some (.int x3), some (.int x4), some (.int v2), some (.int 0), g7]) rfl).trans ?_
      rfl
theorem b_X_stepsSeenByFaces_53 {X : zX} {x1 : Int32} {x2 : Int32} {x3 : Int32} {x4 : Int32} {x5 : Int32} {x6 : Int32} {g7 : Option Value} {h : zH} : zrn X 3 m_X_stepsSeenByFaces 53 [some (.ref 1), some (.int x1), some (.int x2), some (.int x3), some (.int x4), some (.int x5), some (.int x6), g7] [] h = (if 4 ≤ x6 then zrn X 3 m_X_stepsSeenByFaces 16 [some (.ref 1), some (.int x1), some (.int x2), some (.int x3), some (.int (x4 + 1)), some (.int x5), some (.int x6), g7] [] h else (zbV (zcf X m_H_face [.ref 8, .int x1, .int x6] h) fun h1 => (zbI (zcf X m_H_ahead [.ref 8, .int x1] h1) fun v3 h2 => (if v3 = x2 then (zbI (zcf X m_X_pairBit [.int x6, .int x4] h2) fun v5 h4 => zrn X 3 m_X_stepsSeenByFaces 53 [some (.ref 1), some (.int x1), some (.int x2), some (.int (x3 ||| v5)), some (.int x4), some (.int x5), some (.int (x6 + 1)), some (.int 1)] [] h4) else (zbI (zcf X m_H_inLens [.ref 8, .int x1] h2) fun v7 h6 => (if (if v7 = x2 then (1 : Int32) else 0) = 0 then zrn X 3 m_X_stepsSeenByFaces 53 [some (.ref 1), some (.int x1), some (.int x2), some (.int (x3 ||| 0)), some (.int x4), some (.int x5), some (.int (x6 + 1)), some (.int (if v7 = x2 then (1 : Int32) else 0))] [] h6 else (zbI (zcf X m_X_pairBit [.int x6, .int x4] h6) fun v10 h9 => zrn X 3 m_X_stepsSeenByFaces 53 [some (.ref 1), some (.int x1), some (.int x2), some (.int (x3 ||| v10)), some (.int x4), some (.int x5), some (.int (x6 + 1)), some (.int (if v7 = x2 then (1 : Int32) else 0))] [] h9))))))) := by
  refine (rn_ld d_X_stepsSeenByFaces_53 rfl rfl rfl rfl).trans ?_
  refine (rn_push d_X_stepsSeenByFaces_55 zcs_iconst_4).trans ?_
  refine (rn_ic_ge d_X_stepsSeenByFaces_56 (t := 125) (by decide)).trans (zif ?_ ?_)
  · refine (rn_inc d_X_stepsSeenByFaces_125 rfl (c := 1) (by decide) (ls' := [some (.ref 1), some (.int x1), some (.int x2), some (.int x3), some (.int (x4 + 1)), some (.int x5), some (.int x6), g7]) rfl).trans ?_
    refine (rn_goto d_X_stepsSeenByFaces_128 (t := 16) (by decide)).trans ?_
    rfl
  · refine (rn_ld d_X_stepsSeenByFaces_59 rfl rfl rfl rfl).trans ?_
    refine (rn_gr d_X_stepsSeenByFaces_60 f_3_16 zc_1 zr_1_1).trans ?_
    refine (rn_ld d_X_stepsSeenByFaces_63 rfl rfl rfl rfl).trans ?_
    refine (rn_ld d_X_stepsSeenByFaces_64 rfl rfl rfl rfl).trans ?_
    refine (rn_vV d_X_stepsSeenByFaces_66 (zinv_v l_3_129 (by decide) (Nat.le_of_ble_eq_true rfl) rfl rfl zc_8 (Nat.le_of_ble_eq_true rfl)) (Nat.le_of_ble_eq_true rfl) rfl).trans (zbV_congr fun h1 => ?_)
    refine (rn_ld d_X_stepsSeenByFaces_69 rfl rfl rfl rfl).trans ?_
    refine (rn_gr d_X_stepsSeenByFaces_70 f_3_16 zc_1 zr_1_1).trans ?_
    refine (rn_ld d_X_stepsSeenByFaces_73 rfl rfl rfl rfl).trans ?_
    refine (rn_vI d_X_stepsSeenByFaces_74 (zinv_v l_3_158 (by decide) (Nat.le_of_ble_eq_true rfl) rfl rfl zc_8 (Nat.le_of_ble_eq_true rfl)) (Nat.le_of_ble_eq_true rfl) (Or.inl rfl)).trans (zbI_congr fun v3 h2 => ?_)
    refine (rn_ld d_X_stepsSeenByFaces_77 rfl rfl rfl rfl).trans ?_
    refine (rn_ic_eq d_X_stepsSeenByFaces_78 (t := 93) (by decide)).trans (zif ?_ ?_)
    · refine (rn_push d_X_stepsSeenByFaces_93 zcs_iconst_1).trans ?_
      refine (rn_goto d_X_stepsSeenByFaces_94 (t := 98) (by decide)).trans ?_
      refine (rn_st d_X_stepsSeenByFaces_98 rfl rfl rfl (by decide) rfl (Nat.le_of_ble_eq_true rfl) (ls' := [some (.ref 1), some (.int x1), some (.int x2), some (.int x3), some (.int x4), some (.int x5), some (.int x6), some (.int 1)]) rfl).trans ?_
      refine (rn_ld d_X_stepsSeenByFaces_100 rfl rfl rfl rfl).trans ?_
      refine (rn_ld d_X_stepsSeenByFaces_101 rfl rfl rfl rfl).trans ?_
      refine ((rn_if_eq d_X_stepsSeenByFaces_103 (t := 116) (by decide)).trans (if_neg (by decide))).trans ?_
      refine (rn_ld d_X_stepsSeenByFaces_106 rfl rfl rfl rfl).trans ?_
      refine (rn_ld d_X_stepsSeenByFaces_108 rfl rfl rfl rfl).trans ?_
      refine (rn_sI d_X_stepsSeenByFaces_110 nb_3_269 (zinv_s l_3_269 (by decide) (Nat.le_of_ble_eq_true rfl) rfl rfl (Nat.le_of_ble_eq_true rfl)) (Nat.le_of_ble_eq_true rfl) (Or.inl rfl)).trans (zbI_congr fun v5 h4 => ?_)
      refine (rn_goto d_X_stepsSeenByFaces_113 (t := 117) (by decide)).trans ?_
      refine (rn_a2 d_X_stepsSeenByFaces_117 rfl).trans ?_
      refine (rn_st d_X_stepsSeenByFaces_118 rfl rfl rfl (by decide) rfl (Nat.le_of_ble_eq_true rfl) (ls' := [some (.ref 1), some (.int x1), some (.int x2), some (.int (x3 ||| v5)), some (.int x4), some (.int x5), some (.int x6), some (.int 1)]) rfl).trans ?_
      refine (rn_inc d_X_stepsSeenByFaces_119 rfl (c := 1) (by decide) (ls' := [some (.ref 1), some (.int x1), some (.int x2), some (.int (x3 ||| v5)), some (.int x4), some (.int x5), some (.int (x6 + 1)), some (.int 1)]) rfl).trans ?_
      refine (rn_goto d_X_stepsSeenByFaces_122 (t := 53) (by decide)).trans ?_
      rfl
    · refine (rn_ld d_X_stepsSeenByFaces_81 rfl rfl rfl rfl).trans ?_
      refine (rn_gr d_X_stepsSeenByFaces_82 f_3_16 zc_1 zr_1_1).trans ?_
      refine (rn_ld d_X_stepsSeenByFaces_85 rfl rfl rfl rfl).trans ?_
      refine (rn_vI d_X_stepsSeenByFaces_86 (zinv_v l_3_161 (by decide) (Nat.le_of_ble_eq_true rfl) rfl rfl zc_8 (Nat.le_of_ble_eq_true rfl)) (Nat.le_of_ble_eq_true rfl) (Or.inl rfl)).trans (zbI_congr fun v7 h6 => ?_)
      refine (rn_ld d_X_stepsSeenByFaces_89 rfl rfl rfl rfl).trans ?_
      refine Eq.trans (b := zrn X 3 m_X_stepsSeenByFaces 98 [some (.ref 1), some (.int x1), some (.int x2), some (.int x3), some (.int x4), some (.int x5), some (.int x6), g7] [.int (if v7 = x2 then (1 : Int32) else 0)] h6) ?_ ?_
      · refine (rn_ic_ne d_X_stepsSeenByFaces_90 (t := 97) (by decide)).trans ?_
        by_cases q8 : v7 = x2
        · simp only [if_pos q8]
          refine (rn_push d_X_stepsSeenByFaces_93 zcs_iconst_1).trans ?_
          refine (rn_goto d_X_stepsSeenByFaces_94 (t := 98) (by decide)).trans ?_
          all_goals rfl
        · simp only [if_neg q8]
          refine (rn_push d_X_stepsSeenByFaces_97 zcs_iconst_0).trans ?_
          all_goals rfl
      refine (rn_st d_X_stepsSeenByFaces_98 rfl rfl rfl (by decide) rfl (Nat.le_of_ble_eq_true rfl) (ls' := [some (.ref 1), some (.int x1), some (.int x2), some (.int x3), some (.int x4), some (.int x5), some (.int x6), some (.int (if v7 = x2 then (1 : Int32) else 0))]) rfl).trans ?_
      refine (rn_ld d_X_stepsSeenByFaces_100 rfl rfl rfl rfl).trans ?_
      refine (rn_ld d_X_stepsSeenByFaces_101 rfl rfl rfl rfl).trans ?_
      refine (rn_if_eq d_X_stepsSeenByFaces_103 (t := 116) (by decide)).trans (zif ?_ ?_)
      · refine (rn_push d_X_stepsSeenByFaces_116 zcs_iconst_0).trans ?_
        refine (rn_a2 d_X_stepsSeenByFaces_117 rfl).trans ?_
        refine (rn_st d_X_stepsSeenByFaces_118 rfl rfl rfl (by decide) rfl (Nat.le_of_ble_eq_true rfl) (ls' := [some (.ref 1), some (.int x1), some (.int x2), some (.int (x3 ||| 0)), some (.int x4), some (.int x5), some (.int x6), some (.int (if v7 = x2 then (1 : Int32) else 0))]) rfl).trans ?_
        refine (rn_inc d_X_stepsSeenByFaces_119 rfl (c := 1) (by decide) (ls' := [some (.ref 1), some (.int x1), some (.int x2), some (.int (x3 ||| 0)), some (.int x4), some (.int x5), some (.int (x6 + 1)), some (.int (if v7 = x2 then (1 : Int32) else 0))]) rfl).trans ?_
        refine (rn_goto d_X_stepsSeenByFaces_122 (t := 53) (by decide)).trans ?_
        rfl
      · refine (rn_ld d_X_stepsSeenByFaces_106 rfl rfl rfl rfl).trans ?_
        refine (rn_ld d_X_stepsSeenByFaces_108 rfl rfl rfl rfl).trans ?_
        refine (rn_sI d_X_stepsSeenByFaces_110 nb_3_269 (zinv_s l_3_269 (by decide) (Nat.le_of_ble_eq_true rfl) rfl rfl (Nat.le_of_ble_eq_true rfl)) (Nat.le_of_ble_eq_true rfl) (Or.inl rfl)).trans (zbI_congr fun v10 h9 => ?_)
        refine (rn_goto d_X_stepsSeenByFaces_113 (t := 117) (by decide)).trans ?_
        refine (rn_a2 d_X_stepsSeenByFaces_117 rfl).trans ?_
        refine (rn_st d_X_stepsSeenByFaces_118 rfl rfl rfl (by decide) rfl (Nat.le_of_ble_eq_true rfl) (ls' := [some (.ref 1), some (.int x1), some (.int x2), some (.int (x3 ||| v10)), some (.int x4), some (.int x5), some (.int x6), some (.int (if v7 = x2 then (1 : Int32) else 0))]) rfl).trans ?_
        refine (rn_inc d_X_stepsSeenByFaces_119 rfl (c := 1) (by decide) (ls' := [some (.ref 1), some (.int x1), some (.int x2), some (.int (x3 ||| v10)), some (.int x4), some (.int x5), some (.int (x6 + 1)), some (.int (if v7 = x2 then (1 : Int32) else 0))]) rfl).trans ?_
        refine (rn_goto d_X_stepsSeenByFaces_122 (t := 53) (by decide)).trans ?_
        rfl
theorem e_X_stepsSeenByFaces {X : zX} {x1 : Int32} {x2 : Int32} {h : zH} : zcf X m_X_stepsSeenByFaces [.ref 1, .int x1, .int x2] h = (zbV (zcf X m_H_become [.ref 8, .ref 2] h) fun h1 => zrn X 3 m_X_stepsSeenByFaces 16 [some (.ref 1), some (.int x1), some (.int x2), some (.int 0), some (.int 0), none, none, none] [] h1) := by
  refine (zcf_run (Nat.le_of_ble_eq_true rfl)).trans ?_
  show zrn X 3 m_X_stepsSeenByFaces 0 [some (.ref 1), some (.int x1), some (.int x2), none, none, none, none, none] [] h = _
  refine (rn_push d_X_stepsSeenByFaces_0 zcs_iconst_0).trans ?_
  refine (rn_st d_X_stepsSeenByFaces_1 rfl rfl rfl (by decide) rfl (Nat.le_of_ble_eq_true rfl) (ls' := [some (.ref 1), some (.int x1), some (.int x2), some (.int 0), none, none, none, none]) rfl).trans ?_
  refine (rn_ld d_X_stepsSeenByFaces_2 rfl rfl rfl rfl).trans ?_
  refine (rn_gr d_X_stepsSeenByFaces_3 f_3_16 zc_1 zr_1_1).trans ?_
  refine (rn_ld d_X_stepsSeenByFaces_6 rfl rfl rfl rfl).trans ?_
  refine (rn_gr d_X_stepsSeenByFaces_7 f_3_10 zc_1 zr_1_0).trans ?_
  refine (rn_vV d_X_stepsSeenByFaces_10 (zinv_v l_3_69 (by decide) (Nat.le_of_ble_eq_true rfl) rfl rfl zc_8 (Nat.le_of_ble_eq_true rfl)) (Nat.le_of_ble_eq_true rfl) rfl).trans (zbV_congr fun h1 => ?_)
  refine (rn_push d_X_stepsSeenByFaces_13 zcs_iconst_0).trans ?_
  refine (rn_st d_X_stepsSeenByFaces_14 rfl rfl rfl (by decide) rfl (Nat.le_of_ble_eq_true rfl) (ls' := [some (.ref 1), some (.int x1), some (.int x2), some (.int 0), some (.int 0), none, none, none]) rfl).trans ?_
  rfl
theorem e_X_pairBit {X : zX} {x0 : Int32} {x1 : Int32} {h : zH} : zcf X m_X_pairBit [.int x0, .int x1] h = (zbI (zcf X m_X_bitOf [.int ((x0 * 5) + x1)] h) fun v2 h1 => (some (some (.int v2), h1))) := by
  refine (zcf_run (Nat.le_of_ble_eq_true rfl)).trans ?_
  show zrn X 1 m_X_pairBit 0 [some (.int x0), some (.int x1)] [] h = _
  refine (rn_ld d_X_pairBit_0 rfl rfl rfl rfl).trans ?_
  refine (rn_push d_X_pairBit_1 zcs_iconst_5).trans ?_
  refine (rn_a2 d_X_pairBit_2 rfl).trans ?_
  refine (rn_ld d_X_pairBit_3 rfl rfl rfl rfl).trans ?_
  refine (rn_a2 d_X_pairBit_4 rfl).trans ?_
  refine (rn_sI d_X_pairBit_5 nb_3_177 (zinv_s l_3_177 (by decide) (Nat.le_of_ble_eq_true rfl) rfl rfl (Nat.le_of_ble_eq_true rfl)) (Nat.le_of_ble_eq_true rfl) (Or.inl rfl)).trans (zbI_congr fun v2 h1 => ?_)
  exact rn_ri d_X_pairBit_8 rfl
theorem b_X_neitherHasBetter_13 {X : zX} {x0 : Int32} {x1 : Int32} {x2 : Int32} {x3 : Int32} {x4 : Int32} {h : zH} : zrn X 2 m_X_neitherHasBetter 13 [some (.int x0), some (.int x1), some (.int x2), some (.int x3), some (.int x4)] [] h = (if 4 < x4 then (some (some (.int 1), h)) else (zbI (zcf X m_X_bitOf [.int x4] h) fun v2 h1 => (if (x1 &&& v2) = 0 then zrn X 2 m_X_neitherHasBetter 13 [some (.int x0), some (.int x1), some (.int x2), some (.int x3), some (.int (x4 + 1))] [] h1 else (zbI (zcf X m_X_pairBit [.int x2, .int x4] h1) fun v4 h3 => (if (x0 &&& v4) = 0 then (some (some (.int 0), h3)) else zrn X 2 m_X_neitherHasBetter 13 [some (.int x0), some (.int x1), some (.int x2), some (.int x3), some (.int (x4 + 1))] [] h3))))) := by
  refine (rn_ld d_X_neitherHasBetter_13 rfl rfl rfl rfl).trans ?_
  refine (rn_push d_X_neitherHasBetter_15 zcs_iconst_4).trans ?_
  refine (rn_ic_gt d_X_neitherHasBetter_16 (t := 48) (by decide)).trans (zif ?_ ?_)
  · refine (rn_push d_X_neitherHasBetter_48 zcs_iconst_1).trans ?_
    exact rn_rz d_X_neitherHasBetter_49 rfl (by decide)
  · refine (rn_ld d_X_neitherHasBetter_19 rfl rfl rfl rfl).trans ?_
    refine (rn_ld d_X_neitherHasBetter_20 rfl rfl rfl rfl).trans ?_
    refine (rn_sI d_X_neitherHasBetter_22 nb_3_177 (zinv_s l_3_177 (by decide) (Nat.le_of_ble_eq_true rfl) rfl rfl (Nat.le_of_ble_eq_true rfl)) (Nat.le_of_ble_eq_true rfl) (Or.inl rfl)).trans (zbI_congr fun v2 h1 => ?_)
    refine (rn_a2 d_X_neitherHasBetter_25 rfl).trans ?_
    refine (rn_if_eq d_X_neitherHasBetter_26 (t := 42) (by decide)).trans (zif ?_ ?_)
    · refine (rn_inc d_X_neitherHasBetter_42 rfl (c := 1) (by decide) (ls' := [some (.int x0), some (.int x1), some (.int x2), some (.int x3), some (.int (x4 + 1))]) rfl).trans ?_
      refine (rn_goto d_X_neitherHasBetter_45 (t := 13) (by decide)).trans ?_
      rfl
    · refine (rn_ld d_X_neitherHasBetter_29 rfl rfl rfl rfl).trans ?_
      refine (rn_ld d_X_neitherHasBetter_30 rfl rfl rfl rfl).trans ?_
      refine (rn_ld d_X_neitherHasBetter_31 rfl rfl rfl rfl).trans ?_
      refine (rn_sI d_X_neitherHasBetter_33 nb_3_269 (zinv_s l_3_269 (by decide) (Nat.le_of_ble_eq_true rfl) rfl rfl (Nat.le_of_ble_eq_true rfl)) (Nat.le_of_ble_eq_true rfl) (Or.inl rfl)).trans (zbI_congr fun v4 h3 => ?_)
      refine (rn_a2 d_X_neitherHasBetter_36 rfl).trans ?_
      refine (rn_if_ne d_X_neitherHasBetter_37 (t := 42) (by decide)).trans (zif ?_ ?_)
      · refine (rn_push d_X_neitherHasBetter_40 zcs_iconst_0).trans ?_
        exact rn_rz d_X_neitherHasBetter_41 rfl (by decide)
      · refine (rn_inc d_X_neitherHasBetter_42 rfl (c := 1) (by decide) (ls' := [some (.int x0), some (.int x1), some (.int x2), some (.int x3), some (.int (x4 + 1))]) rfl).trans ?_
        refine (rn_goto d_X_neitherHasBetter_45 (t := 13) (by decide)).trans ?_
        rfl
theorem b_X_neitherHasBetter_53 {X : zX} {x0 : Int32} {x1 : Int32} {x2 : Int32} {x3 : Int32} {x4 : Int32} {h : zH} : zrn X 2 m_X_neitherHasBetter 53 [some (.int x0), some (.int x1), some (.int x2), some (.int x3), some (.int x4)] [] h = (if 4 ≤ x4 then (some (some (.int 1), h)) else (zbI (zcf X m_X_pairBit [.int x4, .int x3] h) fun v2 h1 => (if (x0 &&& v2) = 0 then zrn X 2 m_X_neitherHasBetter 53 [some (.int x0), some (.int x1), some (.int x2), some (.int x3), some (.int (x4 + 1))] [] h1 else (some (some (.int 0), h1))))) := by
  refine (rn_ld d_X_neitherHasBetter_53 rfl rfl rfl rfl).trans ?_
  refine (rn_push d_X_neitherHasBetter_55 zcs_iconst_4).trans ?_
  refine (rn_ic_ge d_X_neitherHasBetter_56 (t := 78) (by decide)).trans (zif ?_ ?_)
  · refine (rn_push d_X_neitherHasBetter_78 zcs_iconst_1).trans ?_
    exact rn_rz d_X_neitherHasBetter_79 rfl (by decide)
  · refine (rn_ld d_X_neitherHasBetter_59 rfl rfl rfl rfl).trans ?_
    refine (rn_ld d_X_neitherHasBetter_60 rfl rfl rfl rfl).trans ?_
    refine (rn_ld d_X_neitherHasBetter_62 rfl rfl rfl rfl).trans ?_
    refine (rn_sI d_X_neitherHasBetter_63 nb_3_269 (zinv_s l_3_269 (by decide) (Nat.le_of_ble_eq_true rfl) rfl rfl (Nat.le_of_ble_eq_true rfl)) (Nat.le_of_ble_eq_true rfl) (Or.inl rfl)).trans (zbI_congr fun v2 h1 => ?_)
    refine (rn_a2 d_X_neitherHasBetter_66 rfl).trans ?_
    refine (rn_if_eq d_X_neitherHasBetter_67 (t := 72) (by decide)).trans (zif ?_ ?_)
    · refine (rn_inc d_X_neitherHasBetter_72 rfl (c := 1) (by decide) (ls' := [some (.int x0), some (.int x1), some (.int x2), some (.int x3), some (.int (x4 + 1))]) rfl).trans ?_
      refine (rn_goto d_X_neitherHasBetter_75 (t := 53) (by decide)).trans ?_
      rfl
    · refine (rn_push d_X_neitherHasBetter_70 zcs_iconst_0).trans ?_
      exact rn_rz d_X_neitherHasBetter_71 rfl (by decide)
theorem e_X_neitherHasBetter {X : zX} {x0 : Int32} {x1 : Int32} {x2 : Int32} {x3 : Int32} {h : zH} : zcf X m_X_neitherHasBetter [.int x0, .int x1, .int x2, .int x3] h = (zbI (zcf X m_X_pairBit [.int x2, .int x3] h) fun v2 h1 => (if (x0 &&& v2) = 0 then zrn X 2 m_X_neitherHasBetter 53 [some (.int x0), some (.int x1), some (.int x2), some (.int x3), some (.int 0)] [] h1 else zrn X 2 m_X_neitherHasBetter 13 [some (.int x0), some (.int x1), some (.int x2), some (.int x3), some (.int 0)] [] h1)) := by
  refine (zcf_run (Nat.le_of_ble_eq_true rfl)).trans ?_
  show zrn X 2 m_X_neitherHasBetter 0 [some (.int x0), some (.int x1), some (.int x2), some (.int x3), none] [] h = _
  refine (rn_ld d_X_neitherHasBetter_0 rfl rfl rfl rfl).trans ?_
  refine (rn_ld d_X_neitherHasBetter_1 rfl rfl rfl rfl).trans ?_
  refine (rn_ld d_X_neitherHasBetter_2 rfl rfl rfl rfl).trans ?_
  refine (rn_sI d_X_neitherHasBetter_3 nb_3_269 (zinv_s l_3_269 (by decide) (Nat.le_of_ble_eq_true rfl) rfl rfl (Nat.le_of_ble_eq_true rfl)) (Nat.le_of_ble_eq_true rfl) (Or.inl rfl)).trans (zbI_congr fun v2 h1 => ?_)
  refine (rn_a2 d_X_neitherHasBetter_6 rfl).trans ?_
  refine (rn_if_eq d_X_neitherHasBetter_7 (t := 50) (by decide)).trans (zif ?_ ?_)
  · refine (rn_push d_X_neitherHasBetter_50 zcs_iconst_0).trans ?_
    refine (rn_st d_X_neitherHasBetter_51 rfl rfl rfl (by decide) rfl (Nat.le_of_ble_eq_true rfl) (ls' := [some (.int x0), some (.int x1), some (.int x2), some (.int x3), some (.int 0)]) rfl).trans ?_
    rfl
  · refine (rn_push d_X_neitherHasBetter_10 zcs_iconst_0).trans ?_
    refine (rn_st d_X_neitherHasBetter_11 rfl rfl rfl (by decide) rfl (Nat.le_of_ble_eq_true rfl) (ls' := [some (.int x0), some (.int x1), some (.int x2), some (.int x3), some (.int 0)]) rfl).trans ?_
    rfl
theorem b_X_slept_105 {X : zX} {x1 : Int32} {x2 : Int32} {x3 : Int32} {x4 : Int32} {x5 : Int32} {x6 : Int64} {x8 : Int32} {h : zH} : zrn X 14 m_X_slept 105 [some (.ref 1), some (.int x1), some (.int x2), some (.int x3), some (.int x4), some (.int x5), some (.long x6), none, some (.int x8), none, none, none] [] h = (if x3 ≤ x8 then (zbV (zcf X m_H_become [.ref 8, .ref 2] h) fun h1 => (zbL (zcf X m_X_waysToFace [.ref 8, .ref 14, .int x3, .int x1, .int x2, .int x4] h1) fun v3 h2 => (zbL (zcf X m_X_commonDivisor [.long v3, .long x6] h2) fun v5 h4 => (if 0 ≤ (lg_cmp v5 1) then (if x5 = 0 then (if v5 = 0 then none else (some (some (.long (v3 / v5)), h4))) else (if v5 = 0 then none else (some (some (.long (x6 / v5)), h4)))) else (some (some (.long (Int32.toInt64 x5)), h4)))))) else zrn X 14 m_X_slept 105 [some (.ref 1), some (.int x1), some (.int x2), some (.int x3), some (.int x4), some (.int x5), some (.long (x6 * (Int32.toInt64 x4))), none, some (.int (x8 + 1)), none, none, none] [] h) := by
  refine (rn_ld d_X_slept_105 rfl rfl rfl rfl).trans ?_
  refine (rn_ld d_X_slept_107 rfl rfl rfl rfl).trans ?_
  refine (rn_ic_ge d_X_slept_108 (t := 125) (by decide)).trans (zif ?_ ?_)
  · refine (rn_ld d_X_slept_125 rfl rfl rfl rfl).trans ?_
    refine (rn_gr d_X_slept_126 f_3_16 zc_1 zr_1_1).trans ?_
    refine (rn_ld d_X_slept_129 rfl rfl rfl rfl).trans ?_
    refine (rn_gr d_X_slept_130 f_3_10 zc_1 zr_1_0).trans ?_
    refine (rn_vV d_X_slept_133 (zinv_v l_3_69 (by decide) (Nat.le_of_ble_eq_true rfl) rfl rfl zc_8 (Nat.le_of_ble_eq_true rfl)) (Nat.le_of_ble_eq_true rfl) rfl).trans (zbV_congr fun h1 => ?_)
    refine (rn_ld d_X_slept_136 rfl rfl rfl rfl).trans ?_
    refine (rn_gr d_X_slept_137 f_3_16 zc_1 zr_1_1).trans ?_
    refine (rn_ld d_X_slept_140 rfl rfl rfl rfl).trans ?_
    refine (rn_gr d_X_slept_141 f_3_19 zc_1 zr_1_2).trans ?_
    refine (rn_ld d_X_slept_144 rfl rfl rfl rfl).trans ?_
    refine (rn_ld d_X_slept_145 rfl rfl rfl rfl).trans ?_
    refine (rn_ld d_X_slept_146 rfl rfl rfl rfl).trans ?_
    refine (rn_ld d_X_slept_147 rfl rfl rfl rfl).trans ?_
    refine (rn_sL d_X_slept_149 nb_3_225 (zinv_s l_3_225 (by decide) (Nat.le_of_ble_eq_true rfl) rfl rfl (Nat.le_of_ble_eq_true rfl)) zrk_wtf rfl).trans (zbL_congr fun v3 h2 => ?_)
    refine (rn_st2 d_X_slept_152 rfl rfl rfl (Nat.le_of_ble_eq_true rfl) (ls' := [some (.ref 1), some (.int x1), some (.int x2), some (.int x3), some (.int x4), some (.int x5), some (.long x6), none, some (.long v3), none, none, none]) rfl).trans ?_
    refine (rn_ld d_X_slept_154 rfl rfl rfl rfl).trans ?_
    refine (rn_ld d_X_slept_156 rfl rfl rfl rfl).trans ?_
    refine (rn_sL d_X_slept_158 nb_3_229 (zinv_s l_3_229 (by decide) (Nat.le_of_ble_eq_true rfl) rfl rfl (Nat.le_of_ble_eq_true rfl)) (Nat.le_of_ble_eq_true rfl) rfl).trans (zbL_congr fun v5 h4 => ?_)
    refine (rn_st2 d_X_slept_161 rfl rfl rfl (Nat.le_of_ble_eq_true rfl) (ls' := [some (.ref 1), some (.int x1), some (.int x2), some (.int x3), some (.int x4), some (.int x5), some (.long x6), none, some (.long v3), none, some (.long v5), none]) rfl).trans ?_
    refine (rn_ld d_X_slept_163 rfl rfl rfl rfl).trans ?_
    refine (rn_push d_X_slept_165 zcs_lconst_1).trans ?_
    refine (rn_lcmp d_X_slept_166).trans ?_
    refine (rn_if_ge d_X_slept_167 (t := 174) (by decide)).trans (zif ?_ ?_)
    · refine (rn_ld d_X_slept_174 rfl rfl rfl rfl).trans ?_
      refine (rn_if_ne d_X_slept_176 (t := 187) (by decide)).trans (zif ?_ ?_)
      · refine (rn_ld d_X_slept_179 rfl rfl rfl rfl).trans ?_
        refine (rn_ld d_X_slept_181 rfl rfl rfl rfl).trans ?_
        refine (rn_gldiv d_X_slept_183).trans (zif rfl ?_)
        refine (rn_goto d_X_slept_184 (t := 192) (by decide)).trans ?_
        exact rn_rl d_X_slept_192 rfl
      · refine (rn_ld d_X_slept_187 rfl rfl rfl rfl).trans ?_
        refine (rn_ld d_X_slept_189 rfl rfl rfl rfl).trans ?_
        refine (rn_gldiv d_X_slept_191).trans (zif rfl ?_)
        exact rn_rl d_X_slept_192 rfl
    · refine (rn_ld d_X_slept_170 rfl rfl rfl rfl).trans ?_
      refine (rn_i2l d_X_slept_172).trans ?_
      exact rn_rl d_X_slept_173 rfl
  · refine (rn_ld d_X_slept_111 rfl rfl rfl rfl).trans ?_
    refine (rn_ld d_X_slept_113 rfl rfl rfl rfl).trans ?_
    refine (rn_i2l d_X_slept_115).trans ?_
    refine (rn_al d_X_slept_116 rfl).trans ?_
    refine (rn_st2 d_X_slept_117 rfl rfl rfl (Nat.le_of_ble_eq_true rfl) (ls' := [some (.ref 1), some (.int x1), some (.int x2), some (.int x3), some (.int x4), some (.int x5), some (.long (x6 * (Int32.toInt64 x4))), none, some (.int x8), none, none, none]) rfl).trans ?_
    refine (rn_inc d_X_slept_119 rfl (c := 1) (by decide) (ls' := [some (.ref 1), some (.int x1), some (.int x2), some (.int x3), some (.int x4), some (.int x5), some (.long (x6 * (Int32.toInt64 x4))), none, some (.int (x8 + 1)), none, none, none]) rfl).trans ?_
    refine (rn_goto d_X_slept_122 (t := 105) (by decide)).trans ?_
    rfl
theorem e_X_slept {X : zX} {x1 : Int32} {x2 : Int32} {x3 : Int32} {x4 : Int32} {x5 : Int32} {h : zH} : zcf X m_X_slept [.ref 1, .int x1, .int x2, .int x3, .int x4, .int x5] h = (zbI (zcf X m_H_has [.ref 2, .int x1] h) fun v2 h1 => (if v2 = 0 then (zbI (zcf X m_X_refuse [.ref 1, .int (-1)] h1) fun v4 h3 => (some (some (.long (4000000000000000000 - (Int32.toInt64 v4))), h3))) else (zbI (zcf X m_X_isWay [.int x2] h1) fun v6 h5 => (if v6 = 0 then (zbI (zcf X m_X_refuse [.ref 1, .int (-1)] h5) fun v8 h7 => (some (some (.long (4000000000000000000 - (Int32.toInt64 v8))), h7))) else (if x3 < 0 then (zbI (zcf X m_X_refuse [.ref 1, .int (-4)] h5) fun v10 h9 => (some (some (.long (4000000000000000000 - (Int32.toInt64 v10))), h9))) else (if 2 ≤ x4 then (if 8 < x3 then (zbI (zcf X m_X_refuse [.ref 1, .int (-6)] h5) fun v12 h11 => (some (some (.long (4000000000000000000 - (Int32.toInt64 v12))), h11))) else (if x4 ≤ 20 then (if x5 < 0 then (zbI (zcf X m_X_refuse [.ref 1, .int (-2)] h5) fun v14 h13 => (some (some (.long (4000000000000000000 - (Int32.toInt64 v14))), h13))) else (if x5 ≤ 1 then zrn X 14 m_X_slept 105 [some (.ref 1), some (.int x1), some (.int x2), some (.int x3), some (.int x4), some (.int x5), some (.long 1), none, some (.int 0), none, none, none] [] h5 else (zbI (zcf X m_X_refuse [.ref 1, .int (-2)] h5) fun v16 h15 => (some (some (.long (4000000000000000000 - (Int32.toInt64 v16))), h15))))) else (zbI (zcf X m_X_refuse [.ref 1, .int (-6)] h5) fun v18 h17 => (some (some (.long (4000000000000000000 - (Int32.toInt64 v18))), h17))))) else (zbI (zcf X m_X_refuse [.ref 1, .int (-4)] h5) fun v20 h19 => (some (some (.long (4000000000000000000 - (Int32.toInt64 v20))), h19))))))))) := by
  refine (zcf_run (Nat.le_of_ble_eq_true rfl)).trans ?_
  show zrn X 14 m_X_slept 0 [some (.ref 1), some (.int x1), some (.int x2), some (.int x3), some (.int x4), some (.int x5), none, none, none, none, none, none] [] h = _
  refine (rn_ld d_X_slept_0 rfl rfl rfl rfl).trans ?_
  refine (rn_gr d_X_slept_1 f_3_10 zc_1 zr_1_0).trans ?_
  refine (rn_ld d_X_slept_4 rfl rfl rfl rfl).trans ?_
  refine (rn_vI d_X_slept_5 (zinv_v l_3_85 (by decide) (Nat.le_of_ble_eq_true rfl) rfl rfl zc_2 (Nat.le_of_ble_eq_true rfl)) (Nat.le_of_ble_eq_true rfl) (Or.inr rfl)).trans (zbI_congr fun v2 h1 => ?_)
  refine (rn_if_eq d_X_slept_8 (t := 18) (by decide)).trans (zif ?_ ?_)
  · refine (rn_push d_X_slept_18 zcs_ldc2_3_223).trans ?_
    refine (rn_ld d_X_slept_21 rfl rfl rfl rfl).trans ?_
    refine (rn_push d_X_slept_22 zcs_iconst_m1).trans ?_
    refine (rn_vI d_X_slept_23 (zinv_v l_3_55 (by decide) (Nat.le_of_ble_eq_true rfl) rfl rfl zc_1 (Nat.le_of_ble_eq_true rfl)) (Nat.le_of_ble_eq_true rfl) (Or.inl rfl)).trans (zbI_congr fun v4 h3 => ?_)
    refine (rn_i2l d_X_slept_26).trans ?_
    refine (rn_al d_X_slept_27 rfl).trans ?_
    exact rn_rl d_X_slept_28 rfl
  · refine (rn_ld d_X_slept_11 rfl rfl rfl rfl).trans ?_
    refine (rn_sI d_X_slept_12 nb_3_116 (zinv_s l_3_116 (by decide) (Nat.le_of_ble_eq_true rfl) rfl rfl (Nat.le_of_ble_eq_true rfl)) (Nat.le_of_ble_eq_true rfl) (Or.inr rfl)).trans (zbI_congr fun v6 h5 => ?_)
    refine (rn_if_ne d_X_slept_15 (t := 29) (by decide)).trans (zif ?_ ?_)
    · refine (rn_push d_X_slept_18 zcs_ldc2_3_223).trans ?_
      refine (rn_ld d_X_slept_21 rfl rfl rfl rfl).trans ?_
      refine (rn_push d_X_slept_22 zcs_iconst_m1).trans ?_
      refine (rn_vI d_X_slept_23 (zinv_v l_3_55 (by decide) (Nat.le_of_ble_eq_true rfl) rfl rfl zc_1 (Nat.le_of_ble_eq_true rfl)) (Nat.le_of_ble_eq_true rfl) (Or.inl rfl)).trans (zbI_congr fun v8 h7 => ?_)
      refine (rn_i2l d_X_slept_26).trans ?_
      refine (rn_al d_X_slept_27 rfl).trans ?_
      exact rn_rl d_X_slept_28 rfl
    · refine (rn_ld d_X_slept_29 rfl rfl rfl rfl).trans ?_
      refine (rn_if_lt d_X_slept_30 (t := 39) (by decide)).trans (zif ?_ ?_)
      · refine (rn_push d_X_slept_39 zcs_ldc2_3_223).trans ?_
        refine (rn_ld d_X_slept_42 rfl rfl rfl rfl).trans ?_
        refine (rn_push d_X_slept_43 zcs_bipush_m4).trans ?_
        refine (rn_vI d_X_slept_45 (zinv_v l_3_55 (by decide) (Nat.le_of_ble_eq_true rfl) rfl rfl zc_1 (Nat.le_of_ble_eq_true rfl)) (Nat.le_of_ble_eq_true rfl) (Or.inl rfl)).trans (zbI_congr fun v10 h9 => ?_)
        refine (rn_i2l d_X_slept_48).trans ?_
        refine (rn_al d_X_slept_49 rfl).trans ?_
        exact rn_rl d_X_slept_50 rfl
      · refine (rn_ld d_X_slept_33 rfl rfl rfl rfl).trans ?_
        refine (rn_push d_X_slept_35 zcs_iconst_2).trans ?_
        refine (rn_ic_ge d_X_slept_36 (t := 51) (by decide)).trans (zif ?_ ?_)
        · refine (rn_ld d_X_slept_51 rfl rfl rfl rfl).trans ?_
          refine (rn_push d_X_slept_52 zcs_bipush_8).trans ?_
          refine (rn_ic_gt d_X_slept_54 (t := 64) (by decide)).trans (zif ?_ ?_)
          · refine (rn_push d_X_slept_64 zcs_ldc2_3_223).trans ?_
            refine (rn_ld d_X_slept_67 rfl rfl rfl rfl).trans ?_
            refine (rn_push d_X_slept_68 zcs_bipush_m6).trans ?_
            refine (rn_vI d_X_slept_70 (zinv_v l_3_55 (by decide) (Nat.le_of_ble_eq_true rfl) rfl rfl zc_1 (Nat.le_of_ble_eq_true rfl)) (Nat.le_of_ble_eq_true rfl) (Or.inl rfl)).trans (zbI_congr fun v12 h11 => ?_)
            refine (rn_i2l d_X_slept_73).trans ?_
            refine (rn_al d_X_slept_74 rfl).trans ?_
            exact rn_rl d_X_slept_75 rfl
          · refine (rn_ld d_X_slept_57 rfl rfl rfl rfl).trans ?_
            refine (rn_push d_X_slept_59 zcs_bipush_20).trans ?_
            refine (rn_ic_le d_X_slept_61 (t := 76) (by decide)).trans (zif ?_ ?_)
            · refine (rn_ld d_X_slept_76 rfl rfl rfl rfl).trans ?_
              refine (rn_if_lt d_X_slept_78 (t := 87) (by decide)).trans (zif ?_ ?_)
              · refine (rn_push d_X_slept_87 zcs_ldc2_3_223).trans ?_
                refine (rn_ld d_X_slept_90 rfl rfl rfl rfl).trans ?_
                refine (rn_push d_X_slept_91 zcs_bipush_m2).trans ?_
                refine (rn_vI d_X_slept_93 (zinv_v l_3_55 (by decide) (Nat.le_of_ble_eq_true rfl) rfl rfl zc_1 (Nat.le_of_ble_eq_true rfl)) (Nat.le_of_ble_eq_true rfl) (Or.inl rfl)).trans (zbI_congr fun v14 h13 => ?_)
                refine (rn_i2l d_X_slept_96).trans ?_
                refine (rn_al d_X_slept_97 rfl).trans ?_
                exact rn_rl d_X_slept_98 rfl
              · refine (rn_ld d_X_slept_81 rfl rfl rfl rfl).trans ?_
                refine (rn_push d_X_slept_83 zcs_iconst_1).trans ?_
                refine (rn_ic_le d_X_slept_84 (t := 99) (by decide)).trans (zif ?_ ?_)
                · refine (rn_push d_X_slept_99 zcs_lconst_1).trans ?_
                  refine (rn_st2 d_X_slept_100 rfl rfl rfl (Nat.le_of_ble_eq_true rfl) (ls' := [some (.ref 1), some (.int x1), some (.int x2), some (.int x3), some (.int x4), some (.int x5), some (.long 1), none, none, none, none, none]) rfl).trans ?_
                  refine (rn_push d_X_slept_102 zcs_iconst_0).trans ?_
                  refine (rn_st d_X_slept_103 rfl rfl rfl (by decide) rfl (Nat.le_of_ble_eq_true rfl) (ls' := [some (.ref 1), some (.int x1), some (.int x2), some (.int x3), some (.int x4), some (.int x5), some (.long 1), none, some (.int 0), none, none, none]) rfl).trans ?_
                  rfl
                · refine (rn_push d_X_slept_87 zcs_ldc2_3_223).trans ?_
                  refine (rn_ld d_X_slept_90 rfl rfl rfl rfl).trans ?_
                  refine (rn_push d_X_slept_91 zcs_bipush_m2).trans ?_
                  refine (rn_vI d_X_slept_93 (zinv_v l_3_55 (by decide) (Nat.le_of_ble_eq_true rfl) rfl rfl zc_1 (Nat.le_of_ble_eq_true rfl)) (Nat.le_of_ble_eq_true rfl) (Or.inl rfl)).trans (zbI_congr fun v16 h15 => ?_)
                  refine (rn_i2l d_X_slept_96).trans ?_
                  refine (rn_al d_X_slept_97 rfl).trans ?_
                  exact rn_rl d_X_slept_98 rfl
            · refine (rn_push d_X_slept_64 zcs_ldc2_3_223).trans ?_
              refine (rn_ld d_X_slept_67 rfl rfl rfl rfl).trans ?_
              refine (rn_push d_X_slept_68 zcs_bipush_m6).trans ?_
              refine (rn_vI d_X_slept_70 (zinv_v l_3_55 (by decide) (Nat.le_of_ble_eq_true rfl) rfl rfl zc_1 (Nat.le_of_ble_eq_true rfl)) (Nat.le_of_ble_eq_true rfl) (Or.inl rfl)).trans (zbI_congr fun v18 h17 => ?_)
              refine (rn_i2l d_X_slept_73).trans ?_
              refine (rn_al d_X_slept_74 rfl).trans ?_
              exact rn_rl d_X_slept_75 rfl
        · refine (rn_push d_X_slept_39 zcs_ldc2_3_223).trans ?_
          refine (rn_ld d_X_slept_42 rfl rfl rfl rfl).trans ?_
          refine (rn_push d_X_slept_43 zcs_bipush_m4).trans ?_
          refine (rn_vI d_X_slept_45 (zinv_v l_3_55 (by decide) (Nat.le_of_ble_eq_true rfl) rfl rfl zc_1 (Nat.le_of_ble_eq_true rfl)) (Nat.le_of_ble_eq_true rfl) (Or.inl rfl)).trans (zbI_congr fun v20 h19 => ?_)
          refine (rn_i2l d_X_slept_48).trans ?_
          refine (rn_al d_X_slept_49 rfl).trans ?_
          exact rn_rl d_X_slept_50 rfl
theorem b_X_commonDivisor_9 {X : zX} {x0 : Int64} {x2 : Int64} {x4 : Int64} {x6 : Int64} {x8 : Int32} {g9 : Option Value} {h : zH} : zrn X 0 m_X_commonDivisor 9 [some (.long x0), none, some (.long x2), none, some (.long x4), none, some (.long x6), none, some (.int x8), g9, none] [] h = (if 1000 ≤ x8 then (some (some (.long x4), h)) else (if (lg_cmp x6 0) = 0 then (some (some (.long x4), h)) else (if x6 = 0 then none else zrn X 0 m_X_commonDivisor 9 [some (.long x0), none, some (.long x2), none, some (.long x6), none, some (.long (zrmL x4 x6)), none, some (.int (x8 + 1)), some (.long (zrmL x4 x6)), none] [] h))) := by
  refine (rn_ld d_X_commonDivisor_9 rfl rfl rfl rfl).trans ?_
  refine (rn_push d_X_commonDivisor_11 zcs_sipush_1000).trans ?_
  refine (rn_ic_ge d_X_commonDivisor_14 (t := 45) (by decide)).trans (zif ?_ ?_)
  · refine (rn_ld d_X_commonDivisor_45 rfl rfl rfl rfl).trans ?_
    exact rn_rl d_X_commonDivisor_47 rfl
  · refine (rn_ld d_X_commonDivisor_17 rfl rfl rfl rfl).trans ?_
    refine (rn_push d_X_commonDivisor_19 zcs_lconst_0).trans ?_
    refine (rn_lcmp d_X_commonDivisor_20).trans ?_
    refine (rn_if_eq d_X_commonDivisor_21 (t := 45) (by decide)).trans (zif ?_ ?_)
    · refine (rn_ld d_X_commonDivisor_45 rfl rfl rfl rfl).trans ?_
      exact rn_rl d_X_commonDivisor_47 rfl
    · refine (rn_ld d_X_commonDivisor_24 rfl rfl rfl rfl).trans ?_
      refine (rn_ld d_X_commonDivisor_26 rfl rfl rfl rfl).trans ?_
      refine (rn_glrem d_X_commonDivisor_28).trans (zif rfl ?_)
      refine (rn_st2 d_X_commonDivisor_29 rfl rfl rfl (Nat.le_of_ble_eq_true rfl) (ls' := [some (.long x0), none, some (.long x2), none, some (.long x4), none, some (.long x6), none, some (.int x8), some (.long (zrmL x4 x6)), none]) rfl).trans ?_
      refine (rn_ld d_X_commonDivisor_31 rfl rfl rfl rfl).trans ?_
      refine (rn_st2 d_X_commonDivisor_33 rfl rfl rfl (Nat.le_of_ble_eq_true rfl) (ls' := [some (.long x0), none, some (.long x2), none, some (.long x6), none, some (.long x6), none, some (.int x8), some (.long (zrmL x4 x6)), none]) rfl).trans ?_
      refine (rn_ld d_X_commonDivisor_35 rfl rfl rfl rfl).trans ?_
      refine (rn_st2 d_X_commonDivisor_37 rfl rfl rfl (Nat.le_of_ble_eq_true rfl) (ls' := [some (.long x0), none, some (.long x2), none, some (.long x6), none, some (.long (zrmL x4 x6)), none, some (.int x8), some (.long (zrmL x4 x6)), none]) rfl).trans ?_
      refine (rn_inc d_X_commonDivisor_39 rfl (c := 1) (by decide) (ls' := [some (.long x0), none, some (.long x2), none, some (.long x6), none, some (.long (zrmL x4 x6)), none, some (.int (x8 + 1)), some (.long (zrmL x4 x6)), none]) rfl).trans ?_
      refine (rn_goto d_X_commonDivisor_42 (t := 9) (by decide)).trans ?_
      rfl
theorem e_X_commonDivisor {X : zX} {x0 : Int64} {x2 : Int64} {h : zH} : zcf X m_X_commonDivisor [.long x0, .long x2] h = zrn X 0 m_X_commonDivisor 9 [some (.long x0), none, some (.long x2), none, some (.long x0), none, some (.long x2), none, some (.int 0), none, none] [] h := by
  refine (zcf_run (Nat.le_of_ble_eq_true rfl)).trans ?_
  show zrn X 0 m_X_commonDivisor 0 [some (.long x0), none, some (.long x2), none, none, none, none, none, none, none, none] [] h = _
  refine (rn_ld d_X_commonDivisor_0 rfl rfl rfl rfl).trans ?_
  refine (rn_st2 d_X_commonDivisor_1 rfl rfl rfl (Nat.le_of_ble_eq_true rfl) (ls' := [some (.long x0), none, some (.long x2), none, some (.long x0), none, none, none, none, none, none]) rfl).trans ?_
  refine (rn_ld d_X_commonDivisor_3 rfl rfl rfl rfl).trans ?_
  refine (rn_st2 d_X_commonDivisor_4 rfl rfl rfl (Nat.le_of_ble_eq_true rfl) (ls' := [some (.long x0), none, some (.long x2), none, some (.long x0), none, some (.long x2), none, none, none, none]) rfl).trans ?_
  refine (rn_push d_X_commonDivisor_6 zcs_iconst_0).trans ?_
  refine (rn_st d_X_commonDivisor_7 rfl rfl rfl (by decide) rfl (Nat.le_of_ble_eq_true rfl) (ls' := [some (.long x0), none, some (.long x2), none, some (.long x0), none, some (.long x2), none, some (.int 0), none, none]) rfl).trans ?_
  rfl
theorem b_X_busiest_25 {X : zX} {x1 : Int32} {x2 : Int32} {x3 : Int32} {x4 : Int32} {g5 : Option Value} {h : zH} : zrn X 4 m_X_busiest 25 [some (.ref 1), some (.int x1), some (.int x2), some (.int x3), some (.int x4), g5] [] h = (if (h.1 2 5) ≤ x4 then (if x1 = 0 then (some (some (.int x2), h)) else (some (some (.int x3), h))) else (zbI (zcf X m_H_watchers [.ref 2, .int x4] h) fun v2 h1 => (zbI (zcf X m_J_bitCount [.int v2] h1) fun v4 h3 => zrn X 4 m_X_busiest 25 [some (.ref 1), some (.int x1), some (.int (if v4 ≤ x3 then x2 else x4)), some (.int (if v4 ≤ x3 then x3 else v4)), some (.int (x4 + 1)), some (.int v4)] [] h3))) := by
  refine (rn_ld d_X_busiest_25 rfl rfl rfl rfl).trans ?_
  refine (rn_ld d_X_busiest_27 rfl rfl rfl rfl).trans ?_
  refine (rn_gr d_X_busiest_28 f_3_10 zc_1 zr_1_0).trans ?_
  refine (rn_gi d_X_busiest_31 f_3_112 zc_2).trans ?_
  refine (rn_ic_ge d_X_busiest_34 (t := 69) (by decide)).trans (zif ?_ ?_)
  · refine (rn_ld d_X_busiest_69 rfl rfl rfl rfl).trans ?_
    refine (rn_if_ne d_X_busiest_70 (t := 77) (by decide)).trans (zif ?_ ?_)
    · refine (rn_ld d_X_busiest_73 rfl rfl rfl rfl).trans ?_
      refine (rn_goto d_X_busiest_74 (t := 78) (by decide)).trans ?_
      exact rn_ri d_X_busiest_78 rfl
    · refine (rn_ld d_X_busiest_77 rfl rfl rfl rfl).trans ?_
      exact rn_ri d_X_busiest_78 rfl
  · refine (rn_ld d_X_busiest_37 rfl rfl rfl rfl).trans ?_
    refine (rn_gr d_X_busiest_38 f_3_10 zc_1 zr_1_0).trans ?_
    refine (rn_ld d_X_busiest_41 rfl rfl rfl rfl).trans ?_
    refine (rn_vI d_X_busiest_43 (zinv_v l_3_164 (by decide) (Nat.le_of_ble_eq_true rfl) rfl rfl zc_2 (Nat.le_of_ble_eq_true rfl)) (Nat.le_of_ble_eq_true rfl) (Or.inl rfl)).trans (zbI_congr fun v2 h1 => ?_)
    refine (rn_sI d_X_busiest_46 nb_3_207 (zinv_s l_3_207 (by decide) (Nat.le_of_ble_eq_true rfl) rfl rfl (Nat.le_of_ble_eq_true rfl)) (Nat.le_of_ble_eq_true rfl) (Or.inl rfl)).trans (zbI_congr fun v4 h3 => ?_)
    refine (rn_st d_X_busiest_49 rfl rfl rfl (by decide) rfl (Nat.le_of_ble_eq_true rfl) (ls' := [some (.ref 1), some (.int x1), some (.int x2), some (.int x3), some (.int x4), some (.int v4)]) rfl).trans ?_
    refine (rn_ld d_X_busiest_51 rfl rfl rfl rfl).trans ?_
    refine (rn_ld d_X_busiest_53 rfl rfl rfl rfl).trans ?_
    refine Eq.trans (b := zrn X 4 m_X_busiest 63 [some (.ref 1), some (.int x1), some (.int (if v4 ≤ x3 then x2 else x4)), some (.int (if v4 ≤ x3 then x3 else v4)), some (.int x4), some (.int v4)] [] h3) ?_ ?_
    · refine (rn_ic_le d_X_busiest_54 (t := 63) (by decide)).trans ?_
      by_cases q5 : v4 ≤ x3
      · simp only [if_pos q5]
        all_goals rfl
      · simp only [if_neg q5]
        refine (rn_ld d_X_busiest_57 rfl rfl rfl rfl).trans ?_
        refine (rn_st d_X_busiest_59 rfl rfl rfl (by decide) rfl (Nat.le_of_ble_eq_true rfl) (ls' := [some (.ref 1), some (.int x1), some (.int x2), some (.int v4), some (.int x4), some (.int v4)]) rfl).trans ?_
        refine (rn_ld d_X_busiest_60 rfl rfl rfl rfl).trans ?_
        refine (rn_st d_X_busiest_62 rfl rfl rfl (by decide) rfl (Nat.le_of_ble_eq_true rfl) (ls' := [some (.ref 1), some (.int x1), some (.int x4), some (.int v4), some (.int x4), some (.int v4)]) rfl).trans ?_
        all_goals rfl
    refine (rn_inc d_X_busiest_63 rfl (c := 1) (by decide) (ls' := [some (.ref 1), some (.int x1), some (.int (if v4 ≤ x3 then x2 else x4)), some (.int (if v4 ≤ x3 then x3 else v4)), some (.int (x4 + 1)), some (.int v4)]) rfl).trans ?_
    refine (rn_goto d_X_busiest_66 (t := 25) (by decide)).trans ?_
    rfl
theorem e_X_busiest {X : zX} {x1 : Int32} {h : zH} : zcf X m_X_busiest [.ref 1, .int x1] h = (if x1 < 0 then (zbI (zcf X m_X_refuse [.ref 1, .int (-2)] h) fun v2 h1 => (some (some (.int v2), h1))) else (if x1 ≤ 1 then zrn X 4 m_X_busiest 25 [some (.ref 1), some (.int x1), some (.int (-9)), some (.int (-9)), some (.int 0), none] [] h else (zbI (zcf X m_X_refuse [.ref 1, .int (-2)] h) fun v4 h3 => (some (some (.int v4), h3))))) := by
  refine (zcf_run (Nat.le_of_ble_eq_true rfl)).trans ?_
  show zrn X 4 m_X_busiest 0 [some (.ref 1), some (.int x1), none, none, none, none] [] h = _
  refine (rn_ld d_X_busiest_0 rfl rfl rfl rfl).trans ?_
  refine (rn_if_lt d_X_busiest_1 (t := 9) (by decide)).trans (zif ?_ ?_)
  · refine (rn_ld d_X_busiest_9 rfl rfl rfl rfl).trans ?_
    refine (rn_push d_X_busiest_10 zcs_bipush_m2).trans ?_
    refine (rn_vI d_X_busiest_12 (zinv_v l_3_55 (by decide) (Nat.le_of_ble_eq_true rfl) rfl rfl zc_1 (Nat.le_of_ble_eq_true rfl)) (Nat.le_of_ble_eq_true rfl) (Or.inl rfl)).trans (zbI_congr fun v2 h1 => ?_)
    exact rn_ri d_X_busiest_15 rfl
  · refine (rn_ld d_X_busiest_4 rfl rfl rfl rfl).trans ?_
    refine (rn_push d_X_busiest_5 zcs_iconst_1).trans ?_
    refine (rn_ic_le d_X_busiest_6 (t := 16) (by decide)).trans (zif ?_ ?_)
    · refine (rn_push d_X_busiest_16 zcs_bipush_m9).trans ?_
      refine (rn_st d_X_busiest_18 rfl rfl rfl (by decide) rfl (Nat.le_of_ble_eq_true rfl) (ls' := [some (.ref 1), some (.int x1), some (.int (-9)), none, none, none]) rfl).trans ?_
      refine (rn_push d_X_busiest_19 zcs_bipush_m9).trans ?_
      refine (rn_st d_X_busiest_21 rfl rfl rfl (by decide) rfl (Nat.le_of_ble_eq_true rfl) (ls' := [some (.ref 1), some (.int x1), some (.int (-9)), some (.int (-9)), none, none]) rfl).trans ?_
      refine (rn_push d_X_busiest_22 zcs_iconst_0).trans ?_
      refine (rn_st d_X_busiest_23 rfl rfl rfl (by decide) rfl (Nat.le_of_ble_eq_true rfl) (ls' := [some (.ref 1), some (.int x1), some (.int (-9)), some (.int (-9)), some (.int 0), none]) rfl).trans ?_
      rfl
    · refine (rn_ld d_X_busiest_9 rfl rfl rfl rfl).trans ?_
      refine (rn_push d_X_busiest_10 zcs_bipush_m2).trans ?_
      refine (rn_vI d_X_busiest_12 (zinv_v l_3_55 (by decide) (Nat.le_of_ble_eq_true rfl) rfl rfl zc_1 (Nat.le_of_ble_eq_true rfl)) (Nat.le_of_ble_eq_true rfl) (Or.inl rfl)).trans (zbI_congr fun v4 h3 => ?_)
      exact rn_ri d_X_busiest_15 rfl
theorem b_X_twos_20 {X : zX} {x1 : Int32} {x2 : Int32} {x3 : Int32} {g4 : Option Value} {g5 : Option Value} {h : zH} : zrn X 3 m_X_twos 20 [some (.ref 1), some (.int x1), some (.int x2), some (.int x3), g4, g5] [] h = (if (h.1 2 5) ≤ x3 then (some (some (.int x2), h)) else (if x1 = 0 then (zbI (zcf X m_H_ahead [.ref 2, .int x3] h) fun v2 h1 => (if v2 ≤ x3 then zrn X 3 m_X_twos 20 [some (.ref 1), some (.int x1), some (.int x2), some (.int (x3 + 1)), some (.int v2), g5] [] h1 else (if x1 = 0 then (zbI (zcf X m_H_ahead [.ref 2, .int v2] h1) fun v4 h3 => zrn X 3 m_X_twos 20 [some (.ref 1), some (.int x1), some (.int (x2 + (if v4 = x3 then (1 : Int32) else 0))), some (.int (x3 + 1)), some (.int v2), some (.int v4)] [] h3) else (zbI (zcf X m_H_inLens [.ref 2, .int v2] h1) fun v7 h6 => zrn X 3 m_X_twos 20 [some (.ref 1), some (.int x1), some (.int (x2 + (if v7 = x3 then (1 : Int32) else 0))), some (.int (x3 + 1)), some (.int v2), some (.int v7)] [] h6)))) else (zbI (zcf X m_H_inLens [.ref 2, .int x3] h) fun v10 h9 => (if v10 ≤ x3 then zrn X 3 m_X_twos 20 [some (.ref 1), some (.int x1), some (.int x2), some (.int (x3 + 1)), some (.int v10), g5] [] h9 else (if x1 = 0 then (zbI (zcf X m_H_ahead [.ref 2, .int v10] h9) fun v12 h11 => zrn X 3 m_X_twos 20 [some (.ref 1), some (.int x1), some (.int (x2 + (if v12 = x3 then (1 : Int32) else 0))), some (.int (x3 + 1)), some (.int v10), some (.int v12)] [] h11) else (zbI (zcf X m_H_inLens [.ref 2, .int v10] h9) fun v15 h14 => zrn X 3 m_X_twos 20 [some (.ref 1), some (.int x1), some (.int (x2 + (if v15 = x3 then (1 : Int32) else 0))), some (.int (x3 + 1)), some (.int v10), some (.int v15)] [] h14)))))) := by
  refine (rn_ld d_X_twos_20 rfl rfl rfl rfl).trans ?_
  refine (rn_ld d_X_twos_21 rfl rfl rfl rfl).trans ?_
  refine (rn_gr d_X_twos_22 f_3_10 zc_1 zr_1_0).trans ?_
  refine (rn_gi d_X_twos_25 f_3_112 zc_2).trans ?_
  refine (rn_ic_ge d_X_twos_28 (t := 109) (by decide)).trans (zif ?_ ?_)
  · refine (rn_ld d_X_twos_109 rfl rfl rfl rfl).trans ?_
    exact rn_ri d_X_twos_110 rfl
  · refine (rn_ld d_X_twos_31 rfl rfl rfl rfl).trans ?_
    refine (rn_if_ne d_X_twos_32 (t := 46) (by decide)).trans (zif ?_ ?_)
    · refine (rn_ld d_X_twos_35 rfl rfl rfl rfl).trans ?_
      refine (rn_gr d_X_twos_36 f_3_10 zc_1 zr_1_0).trans ?_
      refine (rn_ld d_X_twos_39 rfl rfl rfl rfl).trans ?_
      refine (rn_vI d_X_twos_40 (zinv_v l_3_158 (by decide) (Nat.le_of_ble_eq_true rfl) rfl rfl zc_2 (Nat.le_of_ble_eq_true rfl)) (Nat.le_of_ble_eq_true rfl) (Or.inl rfl)).trans (zbI_congr fun v2 h1 => ?_)
      refine (rn_goto d_X_twos_43 (t := 54) (by decide)).trans ?_
      refine (rn_st d_X_twos_54 rfl rfl rfl (by decide) rfl (Nat.le_of_ble_eq_true rfl) (ls' := [some (.ref 1), some (.int x1), some (.int x2), some (.int x3), some (.int v2), g5]) rfl).trans ?_
      refine (rn_ld d_X_twos_56 rfl rfl rfl rfl).trans ?_
      refine (rn_ld d_X_twos_58 rfl rfl rfl rfl).trans ?_
      refine (rn_ic_le d_X_twos_59 (t := 103) (by decide)).trans (zif ?_ ?_)
      · refine (rn_inc d_X_twos_103 rfl (c := 1) (by decide) (ls' := [some (.ref 1), some (.int x1), some (.int x2), some (.int (x3 + 1)), some (.int v2), g5]) rfl).trans ?_
        refine (rn_goto d_X_twos_106 (t := 20) (by decide)).trans ?_
        rfl
      · refine (rn_ld d_X_twos_62 rfl rfl rfl rfl).trans ?_
        refine (rn_if_ne d_X_twos_63 (t := 78) (by decide)).trans (zif ?_ ?_)
        · refine (rn_ld d_X_twos_66 rfl rfl rfl rfl).trans ?_
          refine (rn_gr d_X_twos_67 f_3_10 zc_1 zr_1_0).trans ?_
          refine (rn_ld d_X_twos_70 rfl rfl rfl rfl).trans ?_
          refine (rn_vI d_X_twos_72 (zinv_v l_3_158 (by decide) (Nat.le_of_ble_eq_true rfl) rfl rfl zc_2 (Nat.le_of_ble_eq_true rfl)) (Nat.le_of_ble_eq_true rfl) (Or.inl rfl)).trans (zbI_congr fun v4 h3 => ?_)
          refine (rn_goto d_X_twos_75 (t := 87) (by decide)).trans ?_
          refine (rn_st d_X_twos_87 rfl rfl rfl (by decide) rfl (Nat.le_of_ble_eq_true rfl) (ls' := [some (.ref 1), some (.int x1), some (.int x2), some (.int x3), some (.int v2), some (.int v4)]) rfl).trans ?_
          refine (rn_ld d_X_twos_89 rfl rfl rfl rfl).trans ?_
          refine (rn_ld d_X_twos_90 rfl rfl rfl rfl).trans ?_
          refine (rn_ld d_X_twos_92 rfl rfl rfl rfl).trans ?_
          refine Eq.trans (b := zrn X 3 m_X_twos 101 [some (.ref 1), some (.int x1), some (.int x2), some (.int x3), some (.int v2), some (.int v4)] [.int (if v4 = x3 then (1 : Int32) else 0), .int x2] h3) ?_ ?_
          · refine (rn_ic_ne d_X_twos_93 (t := 100) (by decide)).trans ?_
            by_cases q5 : v4 = x3
            · simp only [if_pos q5]
              refine (rn_push d_X_twos_96 zcs_iconst_1).trans ?_
              refine (rn_goto d_X_twos_97 (t := 101) (by decide)).trans ?_
              all_goals rfl
            · simp only [if_neg q5]
              refine (rn_push d_X_twos_100 zcs_iconst_0).trans ?_
              all_goals rfl
          refine (rn_a2 d_X_twos_101 rfl).trans ?_
          refine (rn_st d_X_twos_102 rfl rfl rfl (by decide) rfl (Nat.le_of_ble_eq_true rfl) (ls' := [some (.ref 1), some (.int x1), some (.int (x2 + (if v4 = x3 then (1 : Int32) else 0))), some (.int x3), some (.int v2), some (.int v4)]) rfl).trans ?_
          refine (rn_inc d_X_twos_103 rfl (c := 1) (by decide) (ls' := [some (.ref 1), some (.int x1), some (.int (x2 + (if v4 = x3 then (1 : Int32) else 0))), some (.int (x3 + 1)), some (.int v2), some (.int v4)]) rfl).trans ?_
          refine (rn_goto d_X_twos_106 (t := 20) (by decide)).trans ?_
          rfl
        · refine (rn_ld d_X_twos_78 rfl rfl rfl rfl).trans ?_
          refine (rn_gr d_X_twos_79 f_3_10 zc_1 zr_1_0).trans ?_
          refine (rn_ld d_X_twos_82 rfl rfl rfl rfl).trans ?_
          refine (rn_vI d_X_twos_84 (zinv_v l_3_161 (by decide) (Nat.le_of_ble_eq_true rfl) rfl rfl zc_2 (Nat.le_of_ble_eq_true rfl)) (Nat.le_of_ble_eq_true rfl) (Or.inl rfl)).trans (zbI_congr fun v7 h6 => ?_)
          refine (rn_st d_X_twos_87 rfl rfl rfl (by decide) rfl (Nat.le_of_ble_eq_true rfl) (ls' := [some (.ref 1), some (.int x1), some (.int x2), some (.int x3), some (.int v2), some (.int v7)]) rfl).trans ?_
          refine (rn_ld d_X_twos_89 rfl rfl rfl rfl).trans ?_
          refine (rn_ld d_X_twos_90 rfl rfl rfl rfl).trans ?_
          refine (rn_ld d_X_twos_92 rfl rfl rfl rfl).trans ?_
          refine Eq.trans (b := zrn X 3 m_X_twos 101 [some (.ref 1), some (.int x1), some (.int x2), some (.int x3), some (.int v2), some (.int v7)] [.int (if v7 = x3 then (1 : Int32) else 0), .int x2] h6) ?_ ?_
          · refine (rn_ic_ne d_X_twos_93 (t := 100) (by decide)).trans ?_
            by_cases q8 : v7 = x3
            · simp only [if_pos q8]
              refine (rn_push d_X_twos_96 zcs_iconst_1).trans ?_
              refine (rn_goto d_X_twos_97 (t := 101) (by decide)).trans ?_
              all_goals rfl
            · simp only [if_neg q8]
              refine (rn_push d_X_twos_100 zcs_iconst_0).trans ?_
              all_goals rfl
          refine (rn_a2 d_X_twos_101 rfl).trans ?_
          refine (rn_st d_X_twos_102 rfl rfl rfl (by decide) rfl (Nat.le_of_ble_eq_true rfl) (ls' := [some (.ref 1), some (.int x1), some (.int (x2 + (if v7 = x3 then (1 : Int32) else 0))), some (.int x3), some (.int v2), some (.int v7)]) rfl).trans ?_
          refine (rn_inc d_X_twos_103 rfl (c := 1) (by decide) (ls' := [some (.ref 1), some (.int x1), some (.int (x2 + (if v7 = x3 then (1 : Int32) else 0))), some (.int (x3 + 1)), some (.int v2), some (.int v7)]) rfl).trans ?_
          refine (rn_goto d_X_twos_106 (t := 20) (by decide)).trans ?_
          rfl
    · refine (rn_ld d_X_twos_46 rfl rfl rfl rfl).trans ?_
      refine (rn_gr d_X_twos_47 f_3_10 zc_1 zr_1_0).trans ?_
      refine (rn_ld d_X_twos_50 rfl rfl rfl rfl).trans ?_
      refine (rn_vI d_X_twos_51 (zinv_v l_3_161 (by decide) (Nat.le_of_ble_eq_true rfl) rfl rfl zc_2 (Nat.le_of_ble_eq_true rfl)) (Nat.le_of_ble_eq_true rfl) (Or.inl rfl)).trans (zbI_congr fun v10 h9 => ?_)
      refine (rn_st d_X_twos_54 rfl rfl rfl (by decide) rfl (Nat.le_of_ble_eq_true rfl) (ls' := [some (.ref 1), some (.int x1), some (.int x2), some (.int x3), some (.int v10), g5]) rfl).trans ?_
      refine (rn_ld d_X_twos_56 rfl rfl rfl rfl).trans ?_
      refine (rn_ld d_X_twos_58 rfl rfl rfl rfl).trans ?_
      refine (rn_ic_le d_X_twos_59 (t := 103) (by decide)).trans (zif ?_ ?_)
      · refine (rn_inc d_X_twos_103 rfl (c := 1) (by decide) (ls' := [some (.ref 1), some (.int x1), some (.int x2), some (.int (x3 + 1)), some (.int v10), g5]) rfl).trans ?_
        refine (rn_goto d_X_twos_106 (t := 20) (by decide)).trans ?_
        rfl
      · refine (rn_ld d_X_twos_62 rfl rfl rfl rfl).trans ?_
        refine (rn_if_ne d_X_twos_63 (t := 78) (by decide)).trans (zif ?_ ?_)
        · refine (rn_ld d_X_twos_66 rfl rfl rfl rfl).trans ?_
          refine (rn_gr d_X_twos_67 f_3_10 zc_1 zr_1_0).trans ?_
          refine (rn_ld d_X_twos_70 rfl rfl rfl rfl).trans ?_
          refine (rn_vI d_X_twos_72 (zinv_v l_3_158 (by decide) (Nat.le_of_ble_eq_true rfl) rfl rfl zc_2 (Nat.le_of_ble_eq_true rfl)) (Nat.le_of_ble_eq_true rfl) (Or.inl rfl)).trans (zbI_congr fun v12 h11 => ?_)
          refine (rn_goto d_X_twos_75 (t := 87) (by decide)).trans ?_
          refine (rn_st d_X_twos_87 rfl rfl rfl (by decide) rfl (Nat.le_of_ble_eq_true rfl) (ls' := [some (.ref 1), some (.int x1), some (.int x2), some (.int x3), some (.int v10), some (.int v12)]) rfl).trans ?_
          refine (rn_ld d_X_twos_89 rfl rfl rfl rfl).trans ?_
          refine (rn_ld d_X_twos_90 rfl rfl rfl rfl).trans ?_
          refine (rn_ld d_X_twos_92 rfl rfl rfl rfl).trans ?_
          refine Eq.trans (b := zrn X 3 m_X_twos 101 [some (.ref 1), some (.int x1), some (.int x2), some (.int x3), some (.int v10), some (.int v12)] [.int (if v12 = x3 then (1 : Int32) else 0), .int x2] h11) ?_ ?_
          · refine (rn_ic_ne d_X_twos_93 (t := 100) (by decide)).trans ?_
            by_cases q13 : v12 = x3
            · simp only [if_pos q13]
              refine (rn_push d_X_twos_96 zcs_iconst_1).trans ?_
              refine (rn_goto d_X_twos_97 (t := 101) (by decide)).trans ?_
              all_goals rfl
            · simp only [if_neg q13]
              refine (rn_push d_X_twos_100 zcs_iconst_0).trans ?_
              all_goals rfl
          refine (rn_a2 d_X_twos_101 rfl).trans ?_
          refine (rn_st d_X_twos_102 rfl rfl rfl (by decide) rfl (Nat.le_of_ble_eq_true rfl) (ls' := [some (.ref 1), some (.int x1), some (.int (x2 + (if v12 = x3 then (1 : Int32) else 0))), some (.int x3), some (.int v10), some (.int v12)]) rfl).trans ?_
          refine (rn_inc d_X_twos_103 rfl (c := 1) (by decide) (ls' := [some (.ref 1), some (.int x1), some (.int (x2 + (if v12 = x3 then (1 : Int32) else 0))), some (.int (x3 + 1)), some (.int v10), some (.int v12)]) rfl).trans ?_
          refine (rn_goto d_X_twos_106 (t := 20) (by decide)).trans ?_
          rfl
        · refine (rn_ld d_X_twos_78 rfl rfl rfl rfl).trans ?_
          refine (rn_gr d_X_twos_79 f_3_10 zc_1 zr_1_0).trans ?_
          refine (rn_ld d_X_twos_82 rfl rfl rfl rfl).trans ?_
          refine (rn_vI d_X_twos_84 (zinv_v l_3_161 (by decide) (Nat.le_of_ble_eq_true rfl) rfl rfl zc_2 (Nat.le_of_ble_eq_true rfl)) (Nat.le_of_ble_eq_true rfl) (Or.inl rfl)).trans (zbI_congr fun v15 h14 => ?_)
          refine (rn_st d_X_twos_87 rfl rfl rfl (by decide) rfl (Nat.le_of_ble_eq_true rfl) (ls' := [some (.ref 1), some (.int x1), some (.int x2), some (.int x3), some (.int v10), some (.int v15)]) rfl).trans ?_
          refine (rn_ld d_X_twos_89 rfl rfl rfl rfl).trans ?_
          refine (rn_ld d_X_twos_90 rfl rfl rfl rfl).trans ?_
          refine (rn_ld d_X_twos_92 rfl rfl rfl rfl).trans ?_
          refine Eq.trans (b := zrn X 3 m_X_twos 101 [some (.ref 1), some (.int x1), some (.int x2), some (.int x3), some (.int v10), some (.int v15)] [.int (if v15 = x3 then (1 : Int32) else 0), .int x2] h14) ?_ ?_
          · refine (rn_ic_ne d_X_twos_93 (t := 100) (by decide)).trans ?_
            by_cases q16 : v15 = x3
            · simp only [if_pos q16]
              refine (rn_push d_X_twos_96 zcs_iconst_1).trans ?_
              refine (rn_goto d_X_twos_97 (t := 101) (by decide)).trans ?_
              all_goals rfl
            · simp only [if_neg q16]
              refine (rn_push d_X_twos_100 zcs_iconst_0).trans ?_
              all_goals rfl
          refine (rn_a2 d_X_twos_101 rfl).trans ?_
          refine (rn_st d_X_twos_102 rfl rfl rfl (by decide) rfl (Nat.le_of_ble_eq_true rfl) (ls' := [some (.ref 1), some (.int x1), some (.int (x2 + (if v15 = x3 then (1 : Int32) else 0))), some (.int x3), some (.int v10), some (.int v15)]) rfl).trans ?_
          refine (rn_inc d_X_twos_103 rfl (c := 1) (by decide) (ls' := [some (.ref 1), some (.int x1), some (.int (x2 + (if v15 = x3 then (1 : Int32) else 0))), some (.int (x3 + 1)), some (.int v10), some (.int v15)]) rfl).trans ?_
          refine (rn_goto d_X_twos_106 (t := 20) (by decide)).trans ?_
          rfl
theorem e_X_twos {X : zX} {x1 : Int32} {h : zH} : zcf X m_X_twos [.ref 1, .int x1] h = (if x1 < 0 then (zbI (zcf X m_X_refuse [.ref 1, .int (-2)] h) fun v2 h1 => (some (some (.int v2), h1))) else (if x1 ≤ 1 then zrn X 3 m_X_twos 20 [some (.ref 1), some (.int x1), some (.int 0), some (.int 0), none, none] [] h else (zbI (zcf X m_X_refuse [.ref 1, .int (-2)] h) fun v4 h3 => (some (some (.int v4), h3))))) := by
  refine (zcf_run (Nat.le_of_ble_eq_true rfl)).trans ?_
  show zrn X 3 m_X_twos 0 [some (.ref 1), some (.int x1), none, none, none, none] [] h = _
  refine (rn_ld d_X_twos_0 rfl rfl rfl rfl).trans ?_
  refine (rn_if_lt d_X_twos_1 (t := 9) (by decide)).trans (zif ?_ ?_)
  · refine (rn_ld d_X_twos_9 rfl rfl rfl rfl).trans ?_
    refine (rn_push d_X_twos_10 zcs_bipush_m2).trans ?_
    refine (rn_vI d_X_twos_12 (zinv_v l_3_55 (by decide) (Nat.le_of_ble_eq_true rfl) rfl rfl zc_1 (Nat.le_of_ble_eq_true rfl)) (Nat.le_of_ble_eq_true rfl) (Or.inl rfl)).trans (zbI_congr fun v2 h1 => ?_)
    exact rn_ri d_X_twos_15 rfl
  · refine (rn_ld d_X_twos_4 rfl rfl rfl rfl).trans ?_
    refine (rn_push d_X_twos_5 zcs_iconst_1).trans ?_
    refine (rn_ic_le d_X_twos_6 (t := 16) (by decide)).trans (zif ?_ ?_)
    · refine (rn_push d_X_twos_16 zcs_iconst_0).trans ?_
      refine (rn_st d_X_twos_17 rfl rfl rfl (by decide) rfl (Nat.le_of_ble_eq_true rfl) (ls' := [some (.ref 1), some (.int x1), some (.int 0), none, none, none]) rfl).trans ?_
      refine (rn_push d_X_twos_18 zcs_iconst_0).trans ?_
      refine (rn_st d_X_twos_19 rfl rfl rfl (by decide) rfl (Nat.le_of_ble_eq_true rfl) (ls' := [some (.ref 1), some (.int x1), some (.int 0), some (.int 0), none, none]) rfl).trans ?_
      rfl
    · refine (rn_ld d_X_twos_9 rfl rfl rfl rfl).trans ?_
      refine (rn_push d_X_twos_10 zcs_bipush_m2).trans ?_
      refine (rn_vI d_X_twos_12 (zinv_v l_3_55 (by decide) (Nat.le_of_ble_eq_true rfl) rfl rfl zc_1 (Nat.le_of_ble_eq_true rfl)) (Nat.le_of_ble_eq_true rfl) (Or.inl rfl)).trans (zbI_congr fun v4 h3 => ?_)
      exact rn_ri d_X_twos_15 rfl
theorem b_X_nearest_25 {X : zX} {x1 : Int32} {x2 : Int32} {x3 : Int32} {x4 : Int32} {g5 : Option Value} {g6 : Option Value} {h : zH} : zrn X 2 m_X_nearest 25 [some (.ref 1), some (.int x1), some (.int x2), some (.int x3), some (.int x4), g5, g6] [] h = (if (h.1 2 5) ≤ x4 then (if x1 = 0 then (some (some (.int x2), h)) else (some (some (.int x3), h))) else zrn X 2 m_X_nearest 43 [some (.ref 1), some (.int x1), some (.int x2), some (.int x3), some (.int x4), some (.int (x4 + 1)), g6] [] h) := by
  refine (rn_ld d_X_nearest_25 rfl rfl rfl rfl).trans ?_
  refine (rn_ld d_X_nearest_27 rfl rfl rfl rfl).trans ?_
  refine (rn_gr d_X_nearest_28 f_3_10 zc_1 zr_1_0).trans ?_
  refine (rn_gi d_X_nearest_31 f_3_112 zc_2).trans ?_
  refine (rn_ic_ge d_X_nearest_34 (t := 104) (by decide)).trans (zif ?_ ?_)
  · refine (rn_ld d_X_nearest_104 rfl rfl rfl rfl).trans ?_
    refine (rn_if_ne d_X_nearest_105 (t := 112) (by decide)).trans (zif ?_ ?_)
    · refine (rn_ld d_X_nearest_108 rfl rfl rfl rfl).trans ?_
      refine (rn_goto d_X_nearest_109 (t := 113) (by decide)).trans ?_
      exact rn_ri d_X_nearest_113 rfl
    · refine (rn_ld d_X_nearest_112 rfl rfl rfl rfl).trans ?_
      exact rn_ri d_X_nearest_113 rfl
  · refine (rn_ld d_X_nearest_37 rfl rfl rfl rfl).trans ?_
    refine (rn_push d_X_nearest_39 zcs_iconst_1).trans ?_
    refine (rn_a2 d_X_nearest_40 rfl).trans ?_
    refine (rn_st d_X_nearest_41 rfl rfl rfl (by decide) rfl (Nat.le_of_ble_eq_true rfl) (ls' := [some (.ref 1), some (.int x1), some (.int x2), some (.int x3), some (.int x4), some (.int (x4 + 1)), g6]) rfl).trans ?_
    rfl
theorem b_X_nearest_43 {X : zX} {x1 : Int32} {x2 : Int32} {x3 : Int32} {x4 : Int32} {x5 : Int32} {g6 : Option Value} {h : zH} : zrn X 2 m_X_nearest 43 [some (.ref 1), some (.int x1), some (.int x2), some (.int x3), some (.int x4), some (.int x5), g6] [] h = (if (h.1 2 5) ≤ x5 then zrn X 2 m_X_nearest 25 [some (.ref 1), some (.int x1), some (.int x2), some (.int x3), some (.int (x4 + 1)), some (.int x5), g6] [] h else (zbI (zcf X m_H_cellsApart [.ref 2, .int x4, .int x5] h) fun v2 h1 => zrn X 2 m_X_nearest 43 [some (.ref 1), some (.int x1), some (.int (if x2 = (-9) then ((10 * x4) + x5) else (if x3 ≤ v2 then x2 else ((10 * x4) + x5)))), some (.int (if x2 = (-9) then v2 else (if x3 ≤ v2 then x3 else v2))), some (.int x4), some (.int (x5 + 1)), some (.int v2)] [] h1)) := by
  refine (rn_ld d_X_nearest_43 rfl rfl rfl rfl).trans ?_
  refine (rn_ld d_X_nearest_45 rfl rfl rfl rfl).trans ?_
  refine (rn_gr d_X_nearest_46 f_3_10 zc_1 zr_1_0).trans ?_
  refine (rn_gi d_X_nearest_49 f_3_112 zc_2).trans ?_
  refine (rn_ic_ge d_X_nearest_52 (t := 98) (by decide)).trans (zif ?_ ?_)
  · refine (rn_inc d_X_nearest_98 rfl (c := 1) (by decide) (ls' := [some (.ref 1), some (.int x1), some (.int x2), some (.int x3), some (.int (x4 + 1)), some (.int x5), g6]) rfl).trans ?_
    refine (rn_goto d_X_nearest_101 (t := 25) (by decide)).trans ?_
    rfl
  · refine (rn_ld d_X_nearest_55 rfl rfl rfl rfl).trans ?_
    refine (rn_gr d_X_nearest_56 f_3_10 zc_1 zr_1_0).trans ?_
    refine (rn_ld d_X_nearest_59 rfl rfl rfl rfl).trans ?_
    refine (rn_ld d_X_nearest_61 rfl rfl rfl rfl).trans ?_
    refine (rn_vI d_X_nearest_63 (zinv_v l_3_233 (by decide) (Nat.le_of_ble_eq_true rfl) rfl rfl zc_2 (Nat.le_of_ble_eq_true rfl)) (Nat.le_of_ble_eq_true rfl) (Or.inl rfl)).trans (zbI_congr fun v2 h1 => ?_)
    refine (rn_st d_X_nearest_66 rfl rfl rfl (by decide) rfl (Nat.le_of_ble_eq_true rfl) (ls' := [some (.ref 1), some (.int x1), some (.int x2), some (.int x3), some (.int x4), some (.int x5), some (.int v2)]) rfl).trans ?_
    refine (rn_ld d_X_nearest_68 rfl rfl rfl rfl).trans ?_
    refine (rn_push d_X_nearest_69 zcs_bipush_m9).trans ?_
    refine Eq.trans (b := zrn X 2 m_X_nearest 92 [some (.ref 1), some (.int x1), some (.int (if x2 = (-9) then ((10 * x4) + x5) else (if x3 ≤ v2 then x2 else ((10 * x4) + x5)))), some (.int (if x2 = (-9) then v2 else (if x3 ≤ v2 then x3 else v2))), some (.int x4), some (.int x5), some (.int v2)] [] h1) ?_ ?_
    · refine (rn_ic_eq d_X_nearest_71 (t := 80) (by decide)).trans ?_
      by_cases q3 : x2 = (-9)
      · simp only [if_pos q3]
        refine (rn_ld d_X_nearest_80 rfl rfl rfl rfl).trans ?_
        refine (rn_st d_X_nearest_82 rfl rfl rfl (by decide) rfl (Nat.le_of_ble_eq_true rfl) (ls' := [some (.ref 1), some (.int x1), some (.int x2), some (.int v2), some (.int x4), some (.int x5), some (.int v2)]) rfl).trans ?_
        refine (rn_push d_X_nearest_83 zcs_bipush_10).trans ?_
        refine (rn_ld d_X_nearest_85 rfl rfl rfl rfl).trans ?_
        refine (rn_a2 d_X_nearest_87 rfl).trans ?_
        refine (rn_ld d_X_nearest_88 rfl rfl rfl rfl).trans ?_
        refine (rn_a2 d_X_nearest_90 rfl).trans ?_
        refine (rn_st d_X_nearest_91 rfl rfl rfl (by decide) rfl (Nat.le_of_ble_eq_true rfl) (ls' := [some (.ref 1), some (.int x1), some (.int ((10 * x4) + x5)), some (.int v2), some (.int x4), some (.int x5), some (.int v2)]) rfl).trans ?_
        all_goals rfl
      · simp only [if_neg q3]
        refine (rn_ld d_X_nearest_74 rfl rfl rfl rfl).trans ?_
        refine (rn_ld d_X_nearest_76 rfl rfl rfl rfl).trans ?_
        refine (rn_ic_ge d_X_nearest_77 (t := 92) (by decide)).trans ?_
        by_cases q4 : x3 ≤ v2
        · simp only [if_pos q4]
          all_goals rfl
        · simp only [if_neg q4]
          refine (rn_ld d_X_nearest_80 rfl rfl rfl rfl).trans ?_
          refine (rn_st d_X_nearest_82 rfl rfl rfl (by decide) rfl (Nat.le_of_ble_eq_true rfl) (ls' := [some (.ref 1), some (.int x1), some (.int x2), some (.int v2), some (.int x4), some (.int x5), some (.int v2)]) rfl).trans ?_
          refine (rn_push d_X_nearest_83 zcs_bipush_10).trans ?_
          refine (rn_ld d_X_nearest_85 rfl rfl rfl rfl).trans ?_
          refine (rn_a2 d_X_nearest_87 rfl).trans ?_
          refine (rn_ld d_X_nearest_88 rfl rfl rfl rfl).trans ?_
          refine (rn_a2 d_X_nearest_90 rfl).trans ?_
          refine (rn_st d_X_nearest_91 rfl rfl rfl (by decide) rfl (Nat.le_of_ble_eq_true rfl) (ls' := [some (.ref 1), some (.int x1), some (.int ((10 * x4) + x5)), some (.int v2), some (.int x4), some (.int x5), some (.int v2)]) rfl).trans ?_
          all_goals rfl
    refine (rn_inc d_X_nearest_92 rfl (c := 1) (by decide) (ls' := [some (.ref 1), some (.int x1), some (.int (if x2 = (-9) then ((10 * x4) + x5) else (if x3 ≤ v2 then x2 else ((10 * x4) + x5)))), some (.int (if x2 = (-9) then v2 else (if x3 ≤ v2 then x3 else v2))), some (.int x4), some (.int (x5 + 1)), some (.int v2)]) rfl).trans ?_
    refine (rn_goto d_X_nearest_95 (t := 43) (by decide)).trans ?_
    rfl
theorem e_X_nearest {X : zX} {x1 : Int32} {h : zH} : zcf X m_X_nearest [.ref 1, .int x1] h = (if x1 < 0 then (zbI (zcf X m_X_refuse [.ref 1, .int (-2)] h) fun v2 h1 => (some (some (.int v2), h1))) else (if x1 ≤ 1 then zrn X 2 m_X_nearest 25 [some (.ref 1), some (.int x1), some (.int (-9)), some (.int (-9)), some (.int 0), none, none] [] h else (zbI (zcf X m_X_refuse [.ref 1, .int (-2)] h) fun v4 h3 => (some (some (.int v4), h3))))) := by
  refine (zcf_run (Nat.le_of_ble_eq_true rfl)).trans ?_
  show zrn X 2 m_X_nearest 0 [some (.ref 1), some (.int x1), none, none, none, none, none] [] h = _
  refine (rn_ld d_X_nearest_0 rfl rfl rfl rfl).trans ?_
  refine (rn_if_lt d_X_nearest_1 (t := 9) (by decide)).trans (zif ?_ ?_)
  · refine (rn_ld d_X_nearest_9 rfl rfl rfl rfl).trans ?_
    refine (rn_push d_X_nearest_10 zcs_bipush_m2).trans ?_
    refine (rn_vI d_X_nearest_12 (zinv_v l_3_55 (by decide) (Nat.le_of_ble_eq_true rfl) rfl rfl zc_1 (Nat.le_of_ble_eq_true rfl)) (Nat.le_of_ble_eq_true rfl) (Or.inl rfl)).trans (zbI_congr fun v2 h1 => ?_)
    exact rn_ri d_X_nearest_15 rfl
  · refine (rn_ld d_X_nearest_4 rfl rfl rfl rfl).trans ?_
    refine (rn_push d_X_nearest_5 zcs_iconst_1).trans ?_
    refine (rn_ic_le d_X_nearest_6 (t := 16) (by decide)).trans (zif ?_ ?_)
    · refine (rn_push d_X_nearest_16 zcs_bipush_m9).trans ?_
      refine (rn_st d_X_nearest_18 rfl rfl rfl (by decide) rfl (Nat.le_of_ble_eq_true rfl) (ls' := [some (.ref 1), some (.int x1), some (.int (-9)), none, none, none, none]) rfl).trans ?_
      refine (rn_push d_X_nearest_19 zcs_bipush_m9).trans ?_
      refine (rn_st d_X_nearest_21 rfl rfl rfl (by decide) rfl (Nat.le_of_ble_eq_true rfl) (ls' := [some (.ref 1), some (.int x1), some (.int (-9)), some (.int (-9)), none, none, none]) rfl).trans ?_
      refine (rn_push d_X_nearest_22 zcs_iconst_0).trans ?_
      refine (rn_st d_X_nearest_23 rfl rfl rfl (by decide) rfl (Nat.le_of_ble_eq_true rfl) (ls' := [some (.ref 1), some (.int x1), some (.int (-9)), some (.int (-9)), some (.int 0), none, none]) rfl).trans ?_
      rfl
    · refine (rn_ld d_X_nearest_9 rfl rfl rfl rfl).trans ?_
      refine (rn_push d_X_nearest_10 zcs_bipush_m2).trans ?_
      refine (rn_vI d_X_nearest_12 (zinv_v l_3_55 (by decide) (Nat.le_of_ble_eq_true rfl) rfl rfl zc_1 (Nat.le_of_ble_eq_true rfl)) (Nat.le_of_ble_eq_true rfl) (Or.inl rfl)).trans (zbI_congr fun v4 h3 => ?_)
      exact rn_ri d_X_nearest_15 rfl
theorem e_X_rowOf {X : zX} {x0 : Int32} {h : zH} : zcf X m_X_rowOf [.int x0] h = (some (some (.int (x0 / 6)), h)) := by
  refine (zcf_run (Nat.le_of_ble_eq_true rfl)).trans ?_
  show zrn X 0 m_X_rowOf 0 [some (.int x0)] [] h = _
  refine (rn_ld d_X_rowOf_0 rfl rfl rfl rfl).trans ?_
  refine (rn_push d_X_rowOf_1 zcs_bipush_6).trans ?_
  refine (rn_a2 d_X_rowOf_3 (zar_div (by decide))).trans ?_
  exact rn_ri d_X_rowOf_4 rfl
theorem e_X_columnOf {X : zX} {x0 : Int32} {h : zH} : zcf X m_X_columnOf [.int x0] h = (some (some (.int (zrem x0 6)), h)) := by
  refine (zcf_run (Nat.le_of_ble_eq_true rfl)).trans ?_
  show zrn X 0 m_X_columnOf 0 [some (.int x0)] [] h = _
  refine (rn_ld d_X_columnOf_0 rfl rfl rfl rfl).trans ?_
  refine (rn_push d_X_columnOf_1 zcs_bipush_6).trans ?_
  refine (rn_a2 d_X_columnOf_3 (zar_rem (by decide))).trans ?_
  exact rn_ri d_X_columnOf_4 rfl
theorem b_X_lines_4 {X : zX} {x1 : Int32} {x2 : Int32} {g3 : Option Value} {g4 : Option Value} {g5 : Option Value} {h : zH} : zrn X 2 m_X_lines 4 [some (.ref 1), some (.int x1), some (.int x2), g3, g4, g5] [] h = (if 6 ≤ x2 then (some (some (.int x1), h)) else zrn X 2 m_X_lines 18 [some (.ref 1), some (.int x1), some (.int x2), some (.int 0), some (.int 0), some (.int 0)] [] h) := by
  refine (rn_ld d_X_lines_4 rfl rfl rfl rfl).trans ?_
  refine (rn_push d_X_lines_5 zcs_bipush_6).trans ?_
  refine (rn_ic_ge d_X_lines_7 (t := 117) (by decide)).trans (zif ?_ ?_)
  · refine (rn_ld d_X_lines_117 rfl rfl rfl rfl).trans ?_
    exact rn_ri d_X_lines_118 rfl
  · refine (rn_push d_X_lines_10 zcs_iconst_0).trans ?_
    refine (rn_st d_X_lines_11 rfl rfl rfl (by decide) rfl (Nat.le_of_ble_eq_true rfl) (ls' := [some (.ref 1), some (.int x1), some (.int x2), some (.int 0), g4, g5]) rfl).trans ?_
    refine (rn_push d_X_lines_12 zcs_iconst_0).trans ?_
    refine (rn_st d_X_lines_13 rfl rfl rfl (by decide) rfl (Nat.le_of_ble_eq_true rfl) (ls' := [some (.ref 1), some (.int x1), some (.int x2), some (.int 0), some (.int 0), g5]) rfl).trans ?_
    refine (rn_push d_X_lines_15 zcs_iconst_0).trans ?_
    refine (rn_st d_X_lines_16 rfl rfl rfl (by decide) rfl (Nat.le_of_ble_eq_true rfl) (ls' := [some (.ref 1), some (.int x1), some (.int x2), some (.int 0), some (.int 0), some (.int 0)]) rfl).trans ?_
    rfl
theorem b_X_lines_18 {X : zX} {x1 : Int32} {x2 : Int32} {x3 : Int32} {x4 : Int32} {x5 : Int32} {h : zH} : zrn X 2 m_X_lines 18 [some (.ref 1), some (.int x1), some (.int x2), some (.int x3), some (.int x4), some (.int x5)] [] h = (if (h.1 2 5) ≤ x5 then zrn X 2 m_X_lines 4 [some (.ref 1), some (.int (x1 + ((if x3 ≤ 1 then (0 : Int32) else 1) + (if x4 ≤ 1 then (0 : Int32) else 1)))), some (.int (x2 + 1)), some (.int x3), some (.int x4), some (.int x5)] [] h else (zbI (zcf X m_H_cellOf [.ref 2, .int x5] h) fun v4 h3 => (zbI (zcf X m_X_rowOf [.int v4] h3) fun v6 h5 => (zbI (zcf X m_H_cellOf [.ref 2, .int x5] h5) fun v9 h8 => (zbI (zcf X m_X_columnOf [.int v9] h8) fun v11 h10 => zrn X 2 m_X_lines 18 [some (.ref 1), some (.int x1), some (.int x2), some (.int (x3 + (if v6 = x2 then (1 : Int32) else 0))), some (.int (x4 + (if v11 = x2 then (1 : Int32) else 0))), some (.int (x5 + 1))] [] h10))))) := by
  refine (rn_ld d_X_lines_18 rfl rfl rfl rfl).trans ?_
  refine (rn_ld d_X_lines_20 rfl rfl rfl rfl).trans ?_
  refine (rn_gr d_X_lines_21 f_3_10 zc_1 zr_1_0).trans ?_
  refine (rn_gi d_X_lines_24 f_3_112 zc_2).trans ?_
  refine (rn_ic_ge d_X_lines_27 (t := 86) (by decide)).trans (zif ?_ ?_)
  · refine (rn_ld d_X_lines_86 rfl rfl rfl rfl).trans ?_
    refine (rn_ld d_X_lines_87 rfl rfl rfl rfl).trans ?_
    refine (rn_push d_X_lines_88 zcs_iconst_1).trans ?_
    refine Eq.trans (b := zrn X 2 m_X_lines 97 [some (.ref 1), some (.int x1), some (.int x2), some (.int x3), some (.int x4), some (.int x5)] [.int (if x3 ≤ 1 then (0 : Int32) else 1), .int x1] h) ?_ ?_
    · refine (rn_ic_le d_X_lines_89 (t := 96) (by decide)).trans ?_
      by_cases q1 : x3 ≤ 1
      · simp only [if_pos q1]
        refine (rn_push d_X_lines_96 zcs_iconst_0).trans ?_
        all_goals rfl
      · simp only [if_neg q1]
        refine (rn_push d_X_lines_92 zcs_iconst_1).trans ?_
        refine (rn_goto d_X_lines_93 (t := 97) (by decide)).trans ?_
        all_goals rfl
    refine (rn_ld d_X_lines_97 rfl rfl rfl rfl).trans ?_
    refine (rn_push d_X_lines_99 zcs_iconst_1).trans ?_
    refine Eq.trans (b := zrn X 2 m_X_lines 108 [some (.ref 1), some (.int x1), some (.int x2), some (.int x3), some (.int x4), some (.int x5)] [.int (if x4 ≤ 1 then (0 : Int32) else 1), .int (if x3 ≤ 1 then (0 : Int32) else 1), .int x1] h) ?_ ?_
    · refine (rn_ic_le d_X_lines_100 (t := 107) (by decide)).trans ?_
      by_cases q2 : x4 ≤ 1
      · simp only [if_pos q2]
        refine (rn_push d_X_lines_107 zcs_iconst_0).trans ?_
        all_goals rfl
      · simp only [if_neg q2]
        refine (rn_push d_X_lines_103 zcs_iconst_1).trans ?_
        refine (rn_goto d_X_lines_104 (t := 108) (by decide)).trans ?_
        all_goals rfl
    refine (rn_a2 d_X_lines_108 rfl).trans ?_
    refine (rn_a2 d_X_lines_109 rfl).trans ?_
    refine (rn_st d_X_lines_110 rfl rfl rfl (by decide) rfl (Nat.le_of_ble_eq_true rfl) (ls' := [some (.ref 1), some (.int (x1 + ((if x3 ≤ 1 then (0 : Int32) else 1) + (if x4 ≤ 1 then (0 : Int32) else 1)))), some (.int x2), some (.int x3), some (.int x4), some (.int x5)]) rfl).trans ?_
    refine (rn_inc d_X_lines_111 rfl (c := 1) (by decide) (ls' := [some (.ref 1), some (.int (x1 + ((if x3 ≤ 1 then (0 : Int32) else 1) + (if x4 ≤ 1 then (0 : Int32) else 1)))), some (.int (x2 + 1)), some (.int x3), some (.int x4), some (.int x5)]) rfl).trans ?_
    refine (rn_goto d_X_lines_114 (t := 4) (by decide)).trans ?_
    rfl
  · refine (rn_ld d_X_lines_30 rfl rfl rfl rfl).trans ?_
    refine (rn_ld d_X_lines_31 rfl rfl rfl rfl).trans ?_
    refine (rn_gr d_X_lines_32 f_3_10 zc_1 zr_1_0).trans ?_
    refine (rn_ld d_X_lines_35 rfl rfl rfl rfl).trans ?_
    refine (rn_vI d_X_lines_37 (zinv_v l_3_94 (by decide) (Nat.le_of_ble_eq_true rfl) rfl rfl zc_2 (Nat.le_of_ble_eq_true rfl)) (Nat.le_of_ble_eq_true rfl) (Or.inl rfl)).trans (zbI_congr fun v4 h3 => ?_)
    refine (rn_sI d_X_lines_40 nb_3_236 (zinv_s l_3_236 (by decide) (Nat.le_of_ble_eq_true rfl) rfl rfl (Nat.le_of_ble_eq_true rfl)) (Nat.le_of_ble_eq_true rfl) (Or.inl rfl)).trans (zbI_congr fun v6 h5 => ?_)
    refine (rn_ld d_X_lines_43 rfl rfl rfl rfl).trans ?_
    refine Eq.trans (b := zrn X 2 m_X_lines 52 [some (.ref 1), some (.int x1), some (.int x2), some (.int x3), some (.int x4), some (.int x5)] [.int (if v6 = x2 then (1 : Int32) else 0), .int x3] h5) ?_ ?_
    · refine (rn_ic_ne d_X_lines_44 (t := 51) (by decide)).trans ?_
      by_cases q7 : v6 = x2
      · simp only [if_pos q7]
        refine (rn_push d_X_lines_47 zcs_iconst_1).trans ?_
        refine (rn_goto d_X_lines_48 (t := 52) (by decide)).trans ?_
        all_goals rfl
      · simp only [if_neg q7]
        refine (rn_push d_X_lines_51 zcs_iconst_0).trans ?_
        all_goals rfl
    refine (rn_a2 d_X_lines_52 rfl).trans ?_
    refine (rn_st d_X_lines_53 rfl rfl rfl (by decide) rfl (Nat.le_of_ble_eq_true rfl) (ls' := [some (.ref 1), some (.int x1), some (.int x2), some (.int (x3 + (if v6 = x2 then (1 : Int32) else 0))), some (.int x4), some (.int x5)]) rfl).trans ?_
    refine (rn_ld d_X_lines_54 rfl rfl rfl rfl).trans ?_
    refine (rn_ld d_X_lines_56 rfl rfl rfl rfl).trans ?_
    refine (rn_gr d_X_lines_57 f_3_10 zc_1 zr_1_0).trans ?_
    refine (rn_ld d_X_lines_60 rfl rfl rfl rfl).trans ?_
    refine (rn_vI d_X_lines_62 (zinv_v l_3_94 (by decide) (Nat.le_of_ble_eq_true rfl) rfl rfl zc_2 (Nat.le_of_ble_eq_true rfl)) (Nat.le_of_ble_eq_true rfl) (Or.inl rfl)).trans (zbI_congr fun v9 h8 => ?_)
    refine (rn_sI d_X_lines_65 nb_3_239 (zinv_s l_3_239 (by decide) (Nat.le_of_ble_eq_true rfl) rfl rfl (Nat.le_of_ble_eq_true rfl)) (Nat.le_of_ble_eq_true rfl) (Or.inl rfl)).trans (zbI_congr fun v11 h10 => ?_)
    refine (rn_ld d_X_lines_68 rfl rfl rfl rfl).trans ?_
    refine Eq.trans (b := zrn X 2 m_X_lines 77 [some (.ref 1), some (.int x1), some (.int x2), some (.int (x3 + (if v6 = x2 then (1 : Int32) else 0))), some (.int x4), some (.int x5)] [.int (if v11 = x2 then (1 : Int32) else 0), .int x4] h10) ?_ ?_
    · refine (rn_ic_ne d_X_lines_69 (t := 76) (by decide)).trans ?_
      by_cases q12 : v11 = x2
      · simp only [if_pos q12]
        refine (rn_push d_X_lines_72 zcs_iconst_1).trans ?_
        refine (rn_goto d_X_lines_73 (t := 77) (by decide)).trans ?_
        all_goals rfl
      · simp only [if_neg q12]
        refine (rn_push d_X_lines_76 zcs_iconst_0).trans ?_
        all_goals rfl
    refine (rn_a2 d_X_lines_77 rfl).trans ?_
    refine (rn_st d_X_lines_78 rfl rfl rfl (by decide) rfl (Nat.le_of_ble_eq_true rfl) (ls' := [some (.ref 1), some (.int x1), some (.int x2), some (.int (x3 + (if v6 = x2 then (1 : Int32) else 0))), some (.int (x4 + (if v11 = x2 then (1 : Int32) else 0))), some (.int x5)]) rfl).trans ?_
    refine (rn_inc d_X_lines_80 rfl (c := 1) (by decide) (ls' := [some (.ref 1), some (.int x1), some (.int x2), some (.int (x3 + (if v6 = x2 then (1 : Int32) else 0))), some (.int (x4 + (if v11 = x2 then (1 : Int32) else 0))), some (.int (x5 + 1))]) rfl).trans ?_
    refine (rn_goto d_X_lines_83 (t := 18) (by decide)).trans ?_
    rfl
theorem e_X_lines {X : zX} {h : zH} : zcf X m_X_lines [.ref 1] h = zrn X 2 m_X_lines 4 [some (.ref 1), some (.int 0), some (.int 0), none, none, none] [] h := by
  refine (zcf_run (Nat.le_of_ble_eq_true rfl)).trans ?_
  show zrn X 2 m_X_lines 0 [some (.ref 1), none, none, none, none, none] [] h = _
  refine (rn_push d_X_lines_0 zcs_iconst_0).trans ?_
  refine (rn_st d_X_lines_1 rfl rfl rfl (by decide) rfl (Nat.le_of_ble_eq_true rfl) (ls' := [some (.ref 1), some (.int 0), none, none, none, none]) rfl).trans ?_
  refine (rn_push d_X_lines_2 zcs_iconst_0).trans ?_
  refine (rn_st d_X_lines_3 rfl rfl rfl (by decide) rfl (Nat.le_of_ble_eq_true rfl) (ls' := [some (.ref 1), some (.int 0), some (.int 0), none, none, none]) rfl).trans ?_
  rfl
theorem b_X_hidden_4 {X : zX} {x1 : Int32} {x2 : Int32} {h : zH} : zrn X 2 m_X_hidden 4 [some (.ref 1), some (.int x1), some (.int x2)] [] h = (if (h.1 2 5) ≤ x2 then (zbI (zcf X m_H_everybody [.ref 2] h) fun v2 h1 => (some (some (.int (v2 &&& (x1 ^^^ (-1)))), h1))) else (zbI (zcf X m_H_facesOf [.ref 2, .int x2] h) fun v4 h3 => (zbI (zcf X m_H_nextTo [.ref 2, .int x2, .int v4, .int 5] h3) fun v6 h5 => (zbI (zcf X m_X_bitOf [.int v6] h5) fun v8 h7 => zrn X 2 m_X_hidden 4 [some (.ref 1), some (.int (x1 ||| v8)), some (.int (x2 + 1))] [] h7)))) := by
  refine (rn_ld d_X_hidden_4 rfl rfl rfl rfl).trans ?_
  refine (rn_ld d_X_hidden_5 rfl rfl rfl rfl).trans ?_
  refine (rn_gr d_X_hidden_6 f_3_10 zc_1 zr_1_0).trans ?_
  refine (rn_gi d_X_hidden_9 f_3_112 zc_2).trans ?_
  refine (rn_ic_ge d_X_hidden_12 (t := 44) (by decide)).trans (zif ?_ ?_)
  · refine (rn_ld d_X_hidden_44 rfl rfl rfl rfl).trans ?_
    refine (rn_gr d_X_hidden_45 f_3_10 zc_1 zr_1_0).trans ?_
    refine (rn_vI d_X_hidden_48 (zinv_v l_3_180 (by decide) (Nat.le_of_ble_eq_true rfl) rfl rfl zc_2 (Nat.le_of_ble_eq_true rfl)) (Nat.le_of_ble_eq_true rfl) (Or.inl rfl)).trans (zbI_congr fun v2 h1 => ?_)
    refine (rn_ld d_X_hidden_51 rfl rfl rfl rfl).trans ?_
    refine (rn_push d_X_hidden_52 zcs_iconst_m1).trans ?_
    refine (rn_a2 d_X_hidden_53 rfl).trans ?_
    refine (rn_a2 d_X_hidden_54 rfl).trans ?_
    exact rn_ri d_X_hidden_55 rfl
  · refine (rn_ld d_X_hidden_15 rfl rfl rfl rfl).trans ?_
    refine (rn_ld d_X_hidden_16 rfl rfl rfl rfl).trans ?_
    refine (rn_gr d_X_hidden_17 f_3_10 zc_1 zr_1_0).trans ?_
    refine (rn_ld d_X_hidden_20 rfl rfl rfl rfl).trans ?_
    refine (rn_ld d_X_hidden_21 rfl rfl rfl rfl).trans ?_
    refine (rn_gr d_X_hidden_22 f_3_10 zc_1 zr_1_0).trans ?_
    refine (rn_ld d_X_hidden_25 rfl rfl rfl rfl).trans ?_
    refine (rn_vI d_X_hidden_26 (zinv_v l_3_97 (by decide) (Nat.le_of_ble_eq_true rfl) rfl rfl zc_2 (Nat.le_of_ble_eq_true rfl)) (Nat.le_of_ble_eq_true rfl) (Or.inl rfl)).trans (zbI_congr fun v4 h3 => ?_)
    refine (rn_push d_X_hidden_29 zcs_iconst_5).trans ?_
    refine (rn_vI d_X_hidden_30 (zinv_v l_3_242 (by decide) (Nat.le_of_ble_eq_true rfl) rfl rfl zc_2 (Nat.le_of_ble_eq_true rfl)) (Nat.le_of_ble_eq_true rfl) (Or.inl rfl)).trans (zbI_congr fun v6 h5 => ?_)
    refine (rn_sI d_X_hidden_33 nb_3_177 (zinv_s l_3_177 (by decide) (Nat.le_of_ble_eq_true rfl) rfl rfl (Nat.le_of_ble_eq_true rfl)) (Nat.le_of_ble_eq_true rfl) (Or.inl rfl)).trans (zbI_congr fun v8 h7 => ?_)
    refine (rn_a2 d_X_hidden_36 rfl).trans ?_
    refine (rn_st d_X_hidden_37 rfl rfl rfl (by decide) rfl (Nat.le_of_ble_eq_true rfl) (ls' := [some (.ref 1), some (.int (x1 ||| v8)), some (.int x2)]) rfl).trans ?_
    refine (rn_inc d_X_hidden_38 rfl (c := 1) (by decide) (ls' := [some (.ref 1), some (.int (x1 ||| v8)), some (.int (x2 + 1))]) rfl).trans ?_
    refine (rn_goto d_X_hidden_41 (t := 4) (by decide)).trans ?_
    rfl
theorem e_X_hidden {X : zX} {h : zH} : zcf X m_X_hidden [.ref 1] h = zrn X 2 m_X_hidden 4 [some (.ref 1), some (.int 0), some (.int 0)] [] h := by
  refine (zcf_run (Nat.le_of_ble_eq_true rfl)).trans ?_
  show zrn X 2 m_X_hidden 0 [some (.ref 1), none, none] [] h = _
  refine (rn_push d_X_hidden_0 zcs_iconst_0).trans ?_
  refine (rn_st d_X_hidden_1 rfl rfl rfl (by decide) rfl (Nat.le_of_ble_eq_true rfl) (ls' := [some (.ref 1), some (.int 0), none]) rfl).trans ?_
  refine (rn_push d_X_hidden_2 zcs_iconst_0).trans ?_
  refine (rn_st d_X_hidden_3 rfl rfl rfl (by decide) rfl (Nat.le_of_ble_eq_true rfl) (ls' := [some (.ref 1), some (.int 0), some (.int 0)]) rfl).trans ?_
  rfl
theorem b_X_longest_8 {X : zX} {x1 : Int32} {x2 : Int32} {x3 : Int32} {h : zH} : zrn X 2 m_X_longest 8 [some (.ref 1), some (.int x1), some (.int x2), some (.int x3)] [] h = (if (h.1 2 5) ≤ x3 then (some (some (.int x1), h)) else (zbI (zcf X m_H_reachOf [.ref 2, .int x3] h) fun v2 h1 => (if v2 ≤ x2 then zrn X 2 m_X_longest 8 [some (.ref 1), some (.int x1), some (.int x2), some (.int (x3 + 1))] [] h1 else (zbI (zcf X m_H_reachOf [.ref 2, .int x3] h1) fun v4 h3 => zrn X 2 m_X_longest 8 [some (.ref 1), some (.int x3), some (.int v4), some (.int (x3 + 1))] [] h3)))) := by
  refine (rn_ld d_X_longest_8 rfl rfl rfl rfl).trans ?_
  refine (rn_ld d_X_longest_9 rfl rfl rfl rfl).trans ?_
  refine (rn_gr d_X_longest_10 f_3_10 zc_1 zr_1_0).trans ?_
  refine (rn_gi d_X_longest_13 f_3_112 zc_2).trans ?_
  refine (rn_ic_ge d_X_longest_16 (t := 48) (by decide)).trans (zif ?_ ?_)
  · refine (rn_ld d_X_longest_48 rfl rfl rfl rfl).trans ?_
    exact rn_ri d_X_longest_49 rfl
  · refine (rn_ld d_X_longest_19 rfl rfl rfl rfl).trans ?_
    refine (rn_gr d_X_longest_20 f_3_10 zc_1 zr_1_0).trans ?_
    refine (rn_ld d_X_longest_23 rfl rfl rfl rfl).trans ?_
    refine (rn_vI d_X_longest_24 (zinv_v l_3_103 (by decide) (Nat.le_of_ble_eq_true rfl) rfl rfl zc_2 (Nat.le_of_ble_eq_true rfl)) (Nat.le_of_ble_eq_true rfl) (Or.inl rfl)).trans (zbI_congr fun v2 h1 => ?_)
    refine (rn_ld d_X_longest_27 rfl rfl rfl rfl).trans ?_
    refine (rn_ic_le d_X_longest_28 (t := 42) (by decide)).trans (zif ?_ ?_)
    · refine (rn_inc d_X_longest_42 rfl (c := 1) (by decide) (ls' := [some (.ref 1), some (.int x1), some (.int x2), some (.int (x3 + 1))]) rfl).trans ?_
      refine (rn_goto d_X_longest_45 (t := 8) (by decide)).trans ?_
      rfl
    · refine (rn_ld d_X_longest_31 rfl rfl rfl rfl).trans ?_
      refine (rn_gr d_X_longest_32 f_3_10 zc_1 zr_1_0).trans ?_
      refine (rn_ld d_X_longest_35 rfl rfl rfl rfl).trans ?_
      refine (rn_vI d_X_longest_36 (zinv_v l_3_103 (by decide) (Nat.le_of_ble_eq_true rfl) rfl rfl zc_2 (Nat.le_of_ble_eq_true rfl)) (Nat.le_of_ble_eq_true rfl) (Or.inl rfl)).trans (zbI_congr fun v4 h3 => ?_)
      refine (rn_st d_X_longest_39 rfl rfl rfl (by decide) rfl (Nat.le_of_ble_eq_true rfl) (ls' := [some (.ref 1), some (.int x1), some (.int v4), some (.int x3)]) rfl).trans ?_
      refine (rn_ld d_X_longest_40 rfl rfl rfl rfl).trans ?_
      refine (rn_st d_X_longest_41 rfl rfl rfl (by decide) rfl (Nat.le_of_ble_eq_true rfl) (ls' := [some (.ref 1), some (.int x3), some (.int v4), some (.int x3)]) rfl).trans ?_
      refine (rn_inc d_X_longest_42 rfl (c := 1) (by decide) (ls' := [some (.ref 1), some (.int x3), some (.int v4), some (.int (x3 + 1))]) rfl).trans ?_
      refine (rn_goto d_X_longest_45 (t := 8) (by decide)).trans ?_
      rfl
theorem e_X_longest {X : zX} {h : zH} : zcf X m_X_longest [.ref 1] h = zrn X 2 m_X_longest 8 [some (.ref 1), some (.int (-9)), some (.int (-9)), some (.int 0)] [] h := by
  refine (zcf_run (Nat.le_of_ble_eq_true rfl)).trans ?_
  show zrn X 2 m_X_longest 0 [some (.ref 1), none, none, none] [] h = _
  refine (rn_push d_X_longest_0 zcs_bipush_m9).trans ?_
  refine (rn_st d_X_longest_2 rfl rfl rfl (by decide) rfl (Nat.le_of_ble_eq_true rfl) (ls' := [some (.ref 1), some (.int (-9)), none, none]) rfl).trans ?_
  refine (rn_push d_X_longest_3 zcs_bipush_m9).trans ?_
  refine (rn_st d_X_longest_5 rfl rfl rfl (by decide) rfl (Nat.le_of_ble_eq_true rfl) (ls' := [some (.ref 1), some (.int (-9)), some (.int (-9)), none]) rfl).trans ?_
  refine (rn_push d_X_longest_6 zcs_iconst_0).trans ?_
  refine (rn_st d_X_longest_7 rfl rfl rfl (by decide) rfl (Nat.le_of_ble_eq_true rfl) (ls' := [some (.ref 1), some (.int (-9)), some (.int (-9)), some (.int 0)]) rfl).trans ?_
  rfl
theorem b_X_walks_56 {X : zX} {x1 : Int32} {x2 : Int32} {x3 : Int32} {x4 : Int32} {x5 : Int32} {x6 : Int32} {x7 : Int32} {g8 : Option Value} {g9 : Option Value} {h : zH} : zrn X 5 m_X_walks 56 [some (.ref 1), some (.int x1), some (.int x2), some (.int x3), some (.int x4), some (.int x5), some (.int x6), some (.int x7), g8, g9] [] h = (if x2 ≤ x7 then (if x3 = 0 then (some (some (.int x5), h)) else (some (some (.int x6), h))) else (zbI (zcf X m_H_cellOf [.ref 8, .int x1] h) fun v2 h1 => (zbI (zcf X m_H_facesOf [.ref 8, .int x1] h1) fun v4 h3 => (zbV (zcf X m_H_nightWithout [.ref 8, .int (-9)] h3) fun h5 => (zbI (zcf X m_H_cellOf [.ref 8, .int x1] h5) fun v7 h6 => (zbI (zcf X m_H_facesOf [.ref 8, .int x1] h6) fun v10 h9 => zrn X 5 m_X_walks 56 [some (.ref 1), some (.int x1), some (.int x2), some (.int x3), some (.int x4), some (.int (x5 + (if v7 = v2 then (0 : Int32) else 1))), some (.int (x6 + (if v10 = v4 then (0 : Int32) else 1))), some (.int (x7 + 1)), some (.int v2), some (.int v4)] [] h9)))))) := by
  refine (rn_ld d_X_walks_56 rfl rfl rfl rfl).trans ?_
  refine (rn_ld d_X_walks_58 rfl rfl rfl rfl).trans ?_
  refine (rn_ic_ge d_X_walks_59 (t := 143) (by decide)).trans (zif ?_ ?_)
  · refine (rn_ld d_X_walks_143 rfl rfl rfl rfl).trans ?_
    refine (rn_if_ne d_X_walks_144 (t := 152) (by decide)).trans (zif ?_ ?_)
    · refine (rn_ld d_X_walks_147 rfl rfl rfl rfl).trans ?_
      refine (rn_goto d_X_walks_149 (t := 154) (by decide)).trans ?_
      exact rn_ri d_X_walks_154 rfl
    · refine (rn_ld d_X_walks_152 rfl rfl rfl rfl).trans ?_
      exact rn_ri d_X_walks_154 rfl
  · refine (rn_ld d_X_walks_62 rfl rfl rfl rfl).trans ?_
    refine (rn_gr d_X_walks_63 f_3_16 zc_1 zr_1_1).trans ?_
    refine (rn_ld d_X_walks_66 rfl rfl rfl rfl).trans ?_
    refine (rn_vI d_X_walks_67 (zinv_v l_3_94 (by decide) (Nat.le_of_ble_eq_true rfl) rfl rfl zc_8 (Nat.le_of_ble_eq_true rfl)) (Nat.le_of_ble_eq_true rfl) (Or.inl rfl)).trans (zbI_congr fun v2 h1 => ?_)
    refine (rn_st d_X_walks_70 rfl rfl rfl (by decide) rfl (Nat.le_of_ble_eq_true rfl) (ls' := [some (.ref 1), some (.int x1), some (.int x2), some (.int x3), some (.int x4), some (.int x5), some (.int x6), some (.int x7), some (.int v2), g9]) rfl).trans ?_
    refine (rn_ld d_X_walks_72 rfl rfl rfl rfl).trans ?_
    refine (rn_gr d_X_walks_73 f_3_16 zc_1 zr_1_1).trans ?_
    refine (rn_ld d_X_walks_76 rfl rfl rfl rfl).trans ?_
    refine (rn_vI d_X_walks_77 (zinv_v l_3_97 (by decide) (Nat.le_of_ble_eq_true rfl) rfl rfl zc_8 (Nat.le_of_ble_eq_true rfl)) (Nat.le_of_ble_eq_true rfl) (Or.inl rfl)).trans (zbI_congr fun v4 h3 => ?_)
    refine (rn_st d_X_walks_80 rfl rfl rfl (by decide) rfl (Nat.le_of_ble_eq_true rfl) (ls' := [some (.ref 1), some (.int x1), some (.int x2), some (.int x3), some (.int x4), some (.int x5), some (.int x6), some (.int x7), some (.int v2), some (.int v4)]) rfl).trans ?_
    refine (rn_ld d_X_walks_82 rfl rfl rfl rfl).trans ?_
    refine (rn_gr d_X_walks_83 f_3_16 zc_1 zr_1_1).trans ?_
    refine (rn_push d_X_walks_86 zcs_bipush_m9).trans ?_
    refine (rn_vV d_X_walks_88 (zinv_v l_3_171 (by decide) (Nat.le_of_ble_eq_true rfl) rfl rfl zc_8 (Nat.le_of_ble_eq_true rfl)) (Nat.le_of_ble_eq_true rfl) rfl).trans (zbV_congr fun h5 => ?_)
    refine (rn_ld d_X_walks_91 rfl rfl rfl rfl).trans ?_
    refine (rn_ld d_X_walks_93 rfl rfl rfl rfl).trans ?_
    refine (rn_gr d_X_walks_94 f_3_16 zc_1 zr_1_1).trans ?_
    refine (rn_ld d_X_walks_97 rfl rfl rfl rfl).trans ?_
    refine (rn_vI d_X_walks_98 (zinv_v l_3_94 (by decide) (Nat.le_of_ble_eq_true rfl) rfl rfl zc_8 (Nat.le_of_ble_eq_true rfl)) (Nat.le_of_ble_eq_true rfl) (Or.inl rfl)).trans (zbI_congr fun v7 h6 => ?_)
    refine (rn_ld d_X_walks_101 rfl rfl rfl rfl).trans ?_
    refine Eq.trans (b := zrn X 5 m_X_walks 111 [some (.ref 1), some (.int x1), some (.int x2), some (.int x3), some (.int x4), some (.int x5), some (.int x6), some (.int x7), some (.int v2), some (.int v4)] [.int (if v7 = v2 then (0 : Int32) else 1), .int x5] h6) ?_ ?_
    · refine (rn_ic_eq d_X_walks_103 (t := 110) (by decide)).trans ?_
      by_cases q8 : v7 = v2
      · simp only [if_pos q8]
        refine (rn_push d_X_walks_110 zcs_iconst_0).trans ?_
        all_goals rfl
      · simp only [if_neg q8]
        refine (rn_push d_X_walks_106 zcs_iconst_1).trans ?_
        refine (rn_goto d_X_walks_107 (t := 111) (by decide)).trans ?_
        all_goals rfl
    refine (rn_a2 d_X_walks_111 rfl).trans ?_
    refine (rn_st d_X_walks_112 rfl rfl rfl (by decide) rfl (Nat.le_of_ble_eq_true rfl) (ls' := [some (.ref 1), some (.int x1), some (.int x2), some (.int x3), some (.int x4), some (.int (x5 + (if v7 = v2 then (0 : Int32) else 1))), some (.int x6), some (.int x7), some (.int v2), some (.int v4)]) rfl).trans ?_
    refine (rn_ld d_X_walks_114 rfl rfl rfl rfl).trans ?_
    refine (rn_ld d_X_walks_116 rfl rfl rfl rfl).trans ?_
    refine (rn_gr d_X_walks_117 f_3_16 zc_1 zr_1_1).trans ?_
    refine (rn_ld d_X_walks_120 rfl rfl rfl rfl).trans ?_
    refine (rn_vI d_X_walks_121 (zinv_v l_3_97 (by decide) (Nat.le_of_ble_eq_true rfl) rfl rfl zc_8 (Nat.le_of_ble_eq_true rfl)) (Nat.le_of_ble_eq_true rfl) (Or.inl rfl)).trans (zbI_congr fun v10 h9 => ?_)
    refine (rn_ld d_X_walks_124 rfl rfl rfl rfl).trans ?_
    refine Eq.trans (b := zrn X 5 m_X_walks 134 [some (.ref 1), some (.int x1), some (.int x2), some (.int x3), some (.int x4), some (.int (x5 + (if v7 = v2 then (0 : Int32) else 1))), some (.int x6), some (.int x7), some (.int v2), some (.int v4)] [.int (if v10 = v4 then (0 : Int32) else 1), .int x6] h9) ?_ ?_
    · refine (rn_ic_eq d_X_walks_126 (t := 133) (by decide)).trans ?_
      by_cases q11 : v10 = v4
      · simp only [if_pos q11]
        refine (rn_push d_X_walks_133 zcs_iconst_0).trans ?_
        all_goals rfl
      · simp only [if_neg q11]
        refine (rn_push d_X_walks_129 zcs_iconst_1).trans ?_
        refine (rn_goto d_X_walks_130 (t := 134) (by decide)).trans ?_
        all_goals rfl
    refine (rn_a2 d_X_walks_134 rfl).trans ?_
    refine (rn_st d_X_walks_135 rfl rfl rfl (by decide) rfl (Nat.le_of_ble_eq_true rfl) (ls' := [some (.ref 1), some (.int x1), some (.int x2), some (.int x3), some (.int x4), some (.int (x5 + (if v7 = v2 then (0 : Int32) else 1))), some (.int (x6 + (if v10 = v4 then (0 : Int32) else 1))), some (.int x7), some (.int v2), some (.int v4)]) rfl).trans ?_
    refine (rn_inc d_X_walks_137 rfl (c := 1) (by decide) (ls' := [some (.ref 1), some (.int x1), some (.int x2), some (.int x3), some (.int x4), some (.int (x5 + (if v7 = v2 then (0 : Int32) else 1))), some (.int (x6 + (if v10 = v4 then (0 : Int32) else 1))), some (.int (x7 + 1)), some (.int v2), some (.int v4)]) rfl).trans ?_
    refine (rn_goto d_X_walks_140 (t := 56) (by decide)).trans ?_
    rfl
theorem e_X_walks {X : zX} {x1 : Int32} {x2 : Int32} {x3 : Int32} {h : zH} : zcf X m_X_walks [.ref 1, .int x1, .int x2, .int x3] h = (zbI (zcf X m_X_wrongNights [.ref 1, .int x1, .int x2] h) fun v2 h1 => (if v2 = 0 then (if x3 < 0 then (zbI (zcf X m_X_refuse [.ref 1, .int (-2)] h1) fun v4 h3 => (some (some (.int v4), h3))) else (if x3 ≤ 1 then (zbV (zcf X m_H_become [.ref 8, .ref 2] h1) fun h5 => zrn X 5 m_X_walks 56 [some (.ref 1), some (.int x1), some (.int x2), some (.int x3), some (.int v2), some (.int 0), some (.int 0), some (.int 0), none, none] [] h5) else (zbI (zcf X m_X_refuse [.ref 1, .int (-2)] h1) fun v7 h6 => (some (some (.int v7), h6))))) else (zbI (zcf X m_X_refuse [.ref 1, .int v2] h1) fun v9 h8 => (some (some (.int v9), h8))))) := by
  refine (zcf_run (Nat.le_of_ble_eq_true rfl)).trans ?_
  show zrn X 5 m_X_walks 0 [some (.ref 1), some (.int x1), some (.int x2), some (.int x3), none, none, none, none, none, none] [] h = _
  refine (rn_ld d_X_walks_0 rfl rfl rfl rfl).trans ?_
  refine (rn_ld d_X_walks_1 rfl rfl rfl rfl).trans ?_
  refine (rn_ld d_X_walks_2 rfl rfl rfl rfl).trans ?_
  refine (rn_vI d_X_walks_3 (zinv_v l_3_151 (by decide) (Nat.le_of_ble_eq_true rfl) rfl rfl zc_1 (Nat.le_of_ble_eq_true rfl)) (Nat.le_of_ble_eq_true rfl) (Or.inl rfl)).trans (zbI_congr fun v2 h1 => ?_)
  refine (rn_st d_X_walks_6 rfl rfl rfl (by decide) rfl (Nat.le_of_ble_eq_true rfl) (ls' := [some (.ref 1), some (.int x1), some (.int x2), some (.int x3), some (.int v2), none, none, none, none, none]) rfl).trans ?_
  refine (rn_ld d_X_walks_8 rfl rfl rfl rfl).trans ?_
  refine (rn_if_eq d_X_walks_10 (t := 20) (by decide)).trans (zif ?_ ?_)
  · refine (rn_ld d_X_walks_20 rfl rfl rfl rfl).trans ?_
    refine (rn_if_lt d_X_walks_21 (t := 29) (by decide)).trans (zif ?_ ?_)
    · refine (rn_ld d_X_walks_29 rfl rfl rfl rfl).trans ?_
      refine (rn_push d_X_walks_30 zcs_bipush_m2).trans ?_
      refine (rn_vI d_X_walks_32 (zinv_v l_3_55 (by decide) (Nat.le_of_ble_eq_true rfl) rfl rfl zc_1 (Nat.le_of_ble_eq_true rfl)) (Nat.le_of_ble_eq_true rfl) (Or.inl rfl)).trans (zbI_congr fun v4 h3 => ?_)
      exact rn_ri d_X_walks_35 rfl
    · refine (rn_ld d_X_walks_24 rfl rfl rfl rfl).trans ?_
      refine (rn_push d_X_walks_25 zcs_iconst_1).trans ?_
      refine (rn_ic_le d_X_walks_26 (t := 36) (by decide)).trans (zif ?_ ?_)
      · refine (rn_ld d_X_walks_36 rfl rfl rfl rfl).trans ?_
        refine (rn_gr d_X_walks_37 f_3_16 zc_1 zr_1_1).trans ?_
        refine (rn_ld d_X_walks_40 rfl rfl rfl rfl).trans ?_
        refine (rn_gr d_X_walks_41 f_3_10 zc_1 zr_1_0).trans ?_
        refine (rn_vV d_X_walks_44 (zinv_v l_3_69 (by decide) (Nat.le_of_ble_eq_true rfl) rfl rfl zc_8 (Nat.le_of_ble_eq_true rfl)) (Nat.le_of_ble_eq_true rfl) rfl).trans (zbV_congr fun h5 => ?_)
        refine (rn_push d_X_walks_47 zcs_iconst_0).trans ?_
        refine (rn_st d_X_walks_48 rfl rfl rfl (by decide) rfl (Nat.le_of_ble_eq_true rfl) (ls' := [some (.ref 1), some (.int x1), some (.int x2), some (.int x3), some (.int v2), some (.int 0), none, none, none, none]) rfl).trans ?_
        refine (rn_push d_X_walks_50 zcs_iconst_0).trans ?_
        refine (rn_st d_X_walks_51 rfl rfl rfl (by decide) rfl (Nat.le_of_ble_eq_true rfl) (ls' := [some (.ref 1), some (.int x1), some (.int x2), some (.int x3), some (.int v2), some (.int 0), some (.int 0), none, none, none]) rfl).trans ?_
        refine (rn_push d_X_walks_53 zcs_iconst_0).trans ?_
        refine (rn_st d_X_walks_54 rfl rfl rfl (by decide) rfl (Nat.le_of_ble_eq_true rfl) (ls' := [some (.ref 1), some (.int x1), some (.int x2), some (.int x3), some (.int v2), some (.int 0), some (.int 0), some (.int 0), none, none]) rfl).trans ?_
        rfl
      · refine (rn_ld d_X_walks_29 rfl rfl rfl rfl).trans ?_
        refine (rn_push d_X_walks_30 zcs_bipush_m2).trans ?_
        refine (rn_vI d_X_walks_32 (zinv_v l_3_55 (by decide) (Nat.le_of_ble_eq_true rfl) rfl rfl zc_1 (Nat.le_of_ble_eq_true rfl)) (Nat.le_of_ble_eq_true rfl) (Or.inl rfl)).trans (zbI_congr fun v7 h6 => ?_)
        exact rn_ri d_X_walks_35 rfl
  · refine (rn_ld d_X_walks_13 rfl rfl rfl rfl).trans ?_
    refine (rn_ld d_X_walks_14 rfl rfl rfl rfl).trans ?_
    refine (rn_vI d_X_walks_16 (zinv_v l_3_55 (by decide) (Nat.le_of_ble_eq_true rfl) rfl rfl zc_1 (Nat.le_of_ble_eq_true rfl)) (Nat.le_of_ble_eq_true rfl) (Or.inl rfl)).trans (zbI_congr fun v9 h8 => ?_)
    exact rn_ri d_X_walks_19 rfl
theorem b_X_meets_28 {X : zX} {x1 : Int32} {x2 : Int32} {x3 : Int32} {h : zH} : zrn X 5 m_X_meets 28 [some (.ref 1), some (.int x1), some (.int x2), some (.int x3)] [] h = (if 60 < x3 then (some (some (.int (-9)), h)) else (zbI (zcf X m_H_cellsApart [.ref 8, .int x1, .int x2] h) fun v2 h1 => (if v2 = 1 then (some (some (.int x3), h1)) else (zbV (zcf X m_H_nightWithout [.ref 8, .int (-9)] h1) fun h3 => zrn X 5 m_X_meets 28 [some (.ref 1), some (.int x1), some (.int x2), some (.int (x3 + 1))] [] h3)))) := by
  refine (rn_ld d_X_meets_28 rfl rfl rfl rfl).trans ?_
  refine (rn_push d_X_meets_29 zcs_bipush_60).trans ?_
  refine (rn_ic_gt d_X_meets_31 (t := 64) (by decide)).trans (zif ?_ ?_)
  · refine (rn_push d_X_meets_64 zcs_bipush_m9).trans ?_
    exact rn_ri d_X_meets_66 rfl
  · refine (rn_ld d_X_meets_34 rfl rfl rfl rfl).trans ?_
    refine (rn_gr d_X_meets_35 f_3_16 zc_1 zr_1_1).trans ?_
    refine (rn_ld d_X_meets_38 rfl rfl rfl rfl).trans ?_
    refine (rn_ld d_X_meets_39 rfl rfl rfl rfl).trans ?_
    refine (rn_vI d_X_meets_40 (zinv_v l_3_233 (by decide) (Nat.le_of_ble_eq_true rfl) rfl rfl zc_8 (Nat.le_of_ble_eq_true rfl)) (Nat.le_of_ble_eq_true rfl) (Or.inl rfl)).trans (zbI_congr fun v2 h1 => ?_)
    refine (rn_push d_X_meets_43 zcs_iconst_1).trans ?_
    refine (rn_ic_ne d_X_meets_44 (t := 49) (by decide)).trans (zif ?_ ?_)
    · refine (rn_ld d_X_meets_47 rfl rfl rfl rfl).trans ?_
      exact rn_ri d_X_meets_48 rfl
    · refine (rn_ld d_X_meets_49 rfl rfl rfl rfl).trans ?_
      refine (rn_gr d_X_meets_50 f_3_16 zc_1 zr_1_1).trans ?_
      refine (rn_push d_X_meets_53 zcs_bipush_m9).trans ?_
      refine (rn_vV d_X_meets_55 (zinv_v l_3_171 (by decide) (Nat.le_of_ble_eq_true rfl) rfl rfl zc_8 (Nat.le_of_ble_eq_true rfl)) (Nat.le_of_ble_eq_true rfl) rfl).trans (zbV_congr fun h3 => ?_)
      refine (rn_inc d_X_meets_58 rfl (c := 1) (by decide) (ls' := [some (.ref 1), some (.int x1), some (.int x2), some (.int (x3 + 1))]) rfl).trans ?_
      refine (rn_goto d_X_meets_61 (t := 28) (by decide)).trans ?_
      rfl
theorem e_X_meets {X : zX} {x1 : Int32} {x2 : Int32} {h : zH} : zcf X m_X_meets [.ref 1, .int x1, .int x2] h = (zbI (zcf X m_X_areTwo [.ref 1, .int x1, .int x2] h) fun v2 h1 => (if v2 = 0 then (zbI (zcf X m_X_refuse [.ref 1, .int (-1)] h1) fun v4 h3 => (some (some (.int v4), h3))) else (zbV (zcf X m_H_become [.ref 8, .ref 2] h1) fun h5 => zrn X 5 m_X_meets 28 [some (.ref 1), some (.int x1), some (.int x2), some (.int 0)] [] h5))) := by
  refine (zcf_run (Nat.le_of_ble_eq_true rfl)).trans ?_
  show zrn X 5 m_X_meets 0 [some (.ref 1), some (.int x1), some (.int x2), none] [] h = _
  refine (rn_ld d_X_meets_0 rfl rfl rfl rfl).trans ?_
  refine (rn_ld d_X_meets_1 rfl rfl rfl rfl).trans ?_
  refine (rn_ld d_X_meets_2 rfl rfl rfl rfl).trans ?_
  refine (rn_vI d_X_meets_3 (zinv_v l_3_212 (by decide) (Nat.le_of_ble_eq_true rfl) rfl rfl zc_1 (Nat.le_of_ble_eq_true rfl)) (Nat.le_of_ble_eq_true rfl) (Or.inr rfl)).trans (zbI_congr fun v2 h1 => ?_)
  refine (rn_if_ne d_X_meets_6 (t := 15) (by decide)).trans (zif ?_ ?_)
  · refine (rn_ld d_X_meets_9 rfl rfl rfl rfl).trans ?_
    refine (rn_push d_X_meets_10 zcs_iconst_m1).trans ?_
    refine (rn_vI d_X_meets_11 (zinv_v l_3_55 (by decide) (Nat.le_of_ble_eq_true rfl) rfl rfl zc_1 (Nat.le_of_ble_eq_true rfl)) (Nat.le_of_ble_eq_true rfl) (Or.inl rfl)).trans (zbI_congr fun v4 h3 => ?_)
    exact rn_ri d_X_meets_14 rfl
  · refine (rn_ld d_X_meets_15 rfl rfl rfl rfl).trans ?_
    refine (rn_gr d_X_meets_16 f_3_16 zc_1 zr_1_1).trans ?_
    refine (rn_ld d_X_meets_19 rfl rfl rfl rfl).trans ?_
    refine (rn_gr d_X_meets_20 f_3_10 zc_1 zr_1_0).trans ?_
    refine (rn_vV d_X_meets_23 (zinv_v l_3_69 (by decide) (Nat.le_of_ble_eq_true rfl) rfl rfl zc_8 (Nat.le_of_ble_eq_true rfl)) (Nat.le_of_ble_eq_true rfl) rfl).trans (zbV_congr fun h5 => ?_)
    refine (rn_push d_X_meets_26 zcs_iconst_0).trans ?_
    refine (rn_st d_X_meets_27 rfl rfl rfl (by decide) rfl (Nat.le_of_ble_eq_true rfl) (ls' := [some (.ref 1), some (.int x1), some (.int x2), some (.int 0)]) rfl).trans ?_
    rfl
theorem e_X_leave {X : zX} {x1 : Int32} {x2 : Int32} {h : zH} : zcf X m_X_leave [.ref 1, .int x1, .int x2] h = (zbI (zcf X m_X_areTwo [.ref 1, .int x1, .int x2] h) fun v2 h1 => (if v2 = 0 then (zbI (zcf X m_X_refuse [.ref 1, .int (-1)] h1) fun v4 h3 => (some (some (.int v4), h3))) else (zbV (zcf X m_H_become [.ref 8, .ref 2] h1) fun h5 => (zbV (zcf X m_H_place [.ref 8, .int x2, .int (-1)] h5) fun h6 => (zbI (zcf X m_H_watchers [.ref 8, .int x1] h6) fun v8 h7 => (some (some (.int v8), h7))))))) := by
  refine (zcf_run (Nat.le_of_ble_eq_true rfl)).trans ?_
  show zrn X 4 m_X_leave 0 [some (.ref 1), some (.int x1), some (.int x2)] [] h = _
  refine (rn_ld d_X_leave_0 rfl rfl rfl rfl).trans ?_
  refine (rn_ld d_X_leave_1 rfl rfl rfl rfl).trans ?_
  refine (rn_ld d_X_leave_2 rfl rfl rfl rfl).trans ?_
  refine (rn_vI d_X_leave_3 (zinv_v l_3_212 (by decide) (Nat.le_of_ble_eq_true rfl) rfl rfl zc_1 (Nat.le_of_ble_eq_true rfl)) (Nat.le_of_ble_eq_true rfl) (Or.inr rfl)).trans (zbI_congr fun v2 h1 => ?_)
  refine (rn_if_ne d_X_leave_6 (t := 15) (by decide)).trans (zif ?_ ?_)
  · refine (rn_ld d_X_leave_9 rfl rfl rfl rfl).trans ?_
    refine (rn_push d_X_leave_10 zcs_iconst_m1).trans ?_
    refine (rn_vI d_X_leave_11 (zinv_v l_3_55 (by decide) (Nat.le_of_ble_eq_true rfl) rfl rfl zc_1 (Nat.le_of_ble_eq_true rfl)) (Nat.le_of_ble_eq_true rfl) (Or.inl rfl)).trans (zbI_congr fun v4 h3 => ?_)
    exact rn_ri d_X_leave_14 rfl
  · refine (rn_ld d_X_leave_15 rfl rfl rfl rfl).trans ?_
    refine (rn_gr d_X_leave_16 f_3_16 zc_1 zr_1_1).trans ?_
    refine (rn_ld d_X_leave_19 rfl rfl rfl rfl).trans ?_
    refine (rn_gr d_X_leave_20 f_3_10 zc_1 zr_1_0).trans ?_
    refine (rn_vV d_X_leave_23 (zinv_v l_3_69 (by decide) (Nat.le_of_ble_eq_true rfl) rfl rfl zc_8 (Nat.le_of_ble_eq_true rfl)) (Nat.le_of_ble_eq_true rfl) rfl).trans (zbV_congr fun h5 => ?_)
    refine (rn_ld d_X_leave_26 rfl rfl rfl rfl).trans ?_
    refine (rn_gr d_X_leave_27 f_3_16 zc_1 zr_1_1).trans ?_
    refine (rn_ld d_X_leave_30 rfl rfl rfl rfl).trans ?_
    refine (rn_push d_X_leave_31 zcs_iconst_m1).trans ?_
    refine (rn_vV d_X_leave_32 (zinv_v l_3_133 (by decide) (Nat.le_of_ble_eq_true rfl) rfl rfl zc_8 (Nat.le_of_ble_eq_true rfl)) (Nat.le_of_ble_eq_true rfl) rfl).trans (zbV_congr fun h6 => ?_)
    refine (rn_ld d_X_leave_35 rfl rfl rfl rfl).trans ?_
    refine (rn_gr d_X_leave_36 f_3_16 zc_1 zr_1_1).trans ?_
    refine (rn_ld d_X_leave_39 rfl rfl rfl rfl).trans ?_
    refine (rn_vI d_X_leave_40 (zinv_v l_3_164 (by decide) (Nat.le_of_ble_eq_true rfl) rfl rfl zc_8 (Nat.le_of_ble_eq_true rfl)) (Nat.le_of_ble_eq_true rfl) (Or.inl rfl)).trans (zbI_congr fun v8 h7 => ?_)
    exact rn_ri d_X_leave_43 rfl
theorem b_X_most_40 {X : zX} {x1 : Int32} {x2 : Int32} {x3 : Int32} {x4 : Int32} {x5 : Int32} {x6 : Int32} {g7 : Option Value} {h : zH} : zrn X 4 m_X_most 40 [some (.ref 1), some (.int x1), some (.int x2), some (.int x3), some (.int x4), some (.int x5), some (.int x6), g7] [] h = (if 36 ≤ x6 then (if x2 = 0 then (some (some (.int x4), h)) else (some (some (.int x5), h))) else (zbI (zcf X m_H_isFree [.ref 2, .int x6] h) fun v2 h1 => (if v2 = 0 then zrn X 4 m_X_most 40 [some (.ref 1), some (.int x1), some (.int x2), some (.int x3), some (.int x4), some (.int x5), some (.int (x6 + 1)), g7] [] h1 else (zbV (zcf X m_H_place [.ref 8, .int x1, .int x6] h1) fun h3 => (zbI (zcf X m_H_watchers [.ref 8, .int x1] h3) fun v5 h4 => (zbI (zcf X m_J_bitCount [.int v5] h4) fun v7 h6 => zrn X 4 m_X_most 40 [some (.ref 1), some (.int x1), some (.int x2), some (.int x3), some (.int (if v7 ≤ x5 then x4 else x6)), some (.int (if v7 ≤ x5 then x5 else v7)), some (.int (x6 + 1)), some (.int v7)] [] h6)))))) := by
  refine (rn_ld d_X_most_40 rfl rfl rfl rfl).trans ?_
  refine (rn_push d_X_most_42 zcs_bipush_36).trans ?_
  refine (rn_ic_ge d_X_most_44 (t := 103) (by decide)).trans (zif ?_ ?_)
  · refine (rn_ld d_X_most_103 rfl rfl rfl rfl).trans ?_
    refine (rn_if_ne d_X_most_104 (t := 112) (by decide)).trans (zif ?_ ?_)
    · refine (rn_ld d_X_most_107 rfl rfl rfl rfl).trans ?_
      refine (rn_goto d_X_most_109 (t := 114) (by decide)).trans ?_
      exact rn_ri d_X_most_114 rfl
    · refine (rn_ld d_X_most_112 rfl rfl rfl rfl).trans ?_
      exact rn_ri d_X_most_114 rfl
  · refine (rn_ld d_X_most_47 rfl rfl rfl rfl).trans ?_
    refine (rn_gr d_X_most_48 f_3_10 zc_1 zr_1_0).trans ?_
    refine (rn_ld d_X_most_51 rfl rfl rfl rfl).trans ?_
    refine (rn_vI d_X_most_53 (zinv_v l_3_119 (by decide) (Nat.le_of_ble_eq_true rfl) rfl rfl zc_2 (Nat.le_of_ble_eq_true rfl)) (Nat.le_of_ble_eq_true rfl) (Or.inr rfl)).trans (zbI_congr fun v2 h1 => ?_)
    refine (rn_if_eq d_X_most_56 (t := 97) (by decide)).trans (zif ?_ ?_)
    · refine (rn_inc d_X_most_97 rfl (c := 1) (by decide) (ls' := [some (.ref 1), some (.int x1), some (.int x2), some (.int x3), some (.int x4), some (.int x5), some (.int (x6 + 1)), g7]) rfl).trans ?_
      refine (rn_goto d_X_most_100 (t := 40) (by decide)).trans ?_
      rfl
    · refine (rn_ld d_X_most_59 rfl rfl rfl rfl).trans ?_
      refine (rn_gr d_X_most_60 f_3_16 zc_1 zr_1_1).trans ?_
      refine (rn_ld d_X_most_63 rfl rfl rfl rfl).trans ?_
      refine (rn_ld d_X_most_64 rfl rfl rfl rfl).trans ?_
      refine (rn_vV d_X_most_66 (zinv_v l_3_133 (by decide) (Nat.le_of_ble_eq_true rfl) rfl rfl zc_8 (Nat.le_of_ble_eq_true rfl)) (Nat.le_of_ble_eq_true rfl) rfl).trans (zbV_congr fun h3 => ?_)
      refine (rn_ld d_X_most_69 rfl rfl rfl rfl).trans ?_
      refine (rn_gr d_X_most_70 f_3_16 zc_1 zr_1_1).trans ?_
      refine (rn_ld d_X_most_73 rfl rfl rfl rfl).trans ?_
      refine (rn_vI d_X_most_74 (zinv_v l_3_164 (by decide) (Nat.le_of_ble_eq_true rfl) rfl rfl zc_8 (Nat.le_of_ble_eq_true rfl)) (Nat.le_of_ble_eq_true rfl) (Or.inl rfl)).trans (zbI_congr fun v5 h4 => ?_)
      refine (rn_sI d_X_most_77 nb_3_207 (zinv_s l_3_207 (by decide) (Nat.le_of_ble_eq_true rfl) rfl rfl (Nat.le_of_ble_eq_true rfl)) (Nat.le_of_ble_eq_true rfl) (Or.inl rfl)).trans (zbI_congr fun v7 h6 => ?_)
      refine (rn_st d_X_most_80 rfl rfl rfl (by decide) rfl (Nat.le_of_ble_eq_true rfl) (ls' := [some (.ref 1), some (.int x1), some (.int x2), some (.int x3), some (.int x4), some (.int x5), some (.int x6), some (.int v7)]) rfl).trans ?_
      refine (rn_ld d_X_most_82 rfl rfl rfl rfl).trans ?_
      refine (rn_ld d_X_most_84 rfl rfl rfl rfl).trans ?_
      refine Eq.trans (b := zrn X 4 m_X_most 97 [some (.ref 1), some (.int x1), some (.int x2), some (.int x3), some (.int (if v7 ≤ x5 then x4 else x6)), some (.int (if v7 ≤ x5 then x5 else v7)), some (.int x6), some (.int v7)] [] h6) ?_ ?_
      · refine (rn_ic_le d_X_most_86 (t := 97) (by decide)).trans ?_
        by_cases q8 : v7 ≤ x5
        · simp only [if_pos q8]
          all_goals rfl
        · simp only [if_neg q8]
          refine (rn_ld d_X_most_89 rfl rfl rfl rfl).trans ?_
          refine (rn_st d_X_most_91 rfl rfl rfl (by decide) rfl (Nat.le_of_ble_eq_true rfl) (ls' := [some (.ref 1), some (.int x1), some (.int x2), some (.int x3), some (.int x4), some (.int v7), some (.int x6), some (.int v7)]) rfl).trans ?_
          refine (rn_ld d_X_most_93 rfl rfl rfl rfl).trans ?_
          refine (rn_st d_X_most_95 rfl rfl rfl (by decide) rfl (Nat.le_of_ble_eq_true rfl) (ls' := [some (.ref 1), some (.int x1), some (.int x2), some (.int x3), some (.int x6), some (.int v7), some (.int x6), some (.int v7)]) rfl).trans ?_
          all_goals rfl
      refine (rn_inc d_X_most_97 rfl (c := 1) (by decide) (ls' := [some (.ref 1), some (.int x1), some (.int x2), some (.int x3), some (.int (if v7 ≤ x5 then x4 else x6)), some (.int (if v7 ≤ x5 then x5 else v7)), some (.int (x6 + 1)), some (.int v7)]) rfl).trans ?_
      refine (rn_goto d_X_most_100 (t := 40) (by decide)).trans ?_
      rfl
theorem e_X_most {X : zX} {x1 : Int32} {x2 : Int32} {h : zH} : zcf X m_X_most [.ref 1, .int x1, .int x2] h = (zbI (zcf X m_X_wrongWhat [.ref 1, .int x1, .int x2, .int 1] h) fun v2 h1 => (if v2 = 0 then (zbV (zcf X m_H_become [.ref 8, .ref 2] h1) fun h3 => zrn X 4 m_X_most 40 [some (.ref 1), some (.int x1), some (.int x2), some (.int v2), some (.int (-9)), some (.int (-9)), some (.int 0), none] [] h3) else (zbI (zcf X m_X_refuse [.ref 1, .int v2] h1) fun v5 h4 => (some (some (.int v5), h4))))) := by
  refine (zcf_run (Nat.le_of_ble_eq_true rfl)).trans ?_
  show zrn X 4 m_X_most 0 [some (.ref 1), some (.int x1), some (.int x2), none, none, none, none, none] [] h = _
  refine (rn_ld d_X_most_0 rfl rfl rfl rfl).trans ?_
  refine (rn_ld d_X_most_1 rfl rfl rfl rfl).trans ?_
  refine (rn_ld d_X_most_2 rfl rfl rfl rfl).trans ?_
  refine (rn_push d_X_most_3 zcs_iconst_1).trans ?_
  refine (rn_vI d_X_most_4 (zinv_v l_3_167 (by decide) (Nat.le_of_ble_eq_true rfl) rfl rfl zc_1 (Nat.le_of_ble_eq_true rfl)) (Nat.le_of_ble_eq_true rfl) (Or.inl rfl)).trans (zbI_congr fun v2 h1 => ?_)
  refine (rn_st d_X_most_7 rfl rfl rfl (by decide) rfl (Nat.le_of_ble_eq_true rfl) (ls' := [some (.ref 1), some (.int x1), some (.int x2), some (.int v2), none, none, none, none]) rfl).trans ?_
  refine (rn_ld d_X_most_8 rfl rfl rfl rfl).trans ?_
  refine (rn_if_eq d_X_most_9 (t := 18) (by decide)).trans (zif ?_ ?_)
  · refine (rn_ld d_X_most_18 rfl rfl rfl rfl).trans ?_
    refine (rn_gr d_X_most_19 f_3_16 zc_1 zr_1_1).trans ?_
    refine (rn_ld d_X_most_22 rfl rfl rfl rfl).trans ?_
    refine (rn_gr d_X_most_23 f_3_10 zc_1 zr_1_0).trans ?_
    refine (rn_vV d_X_most_26 (zinv_v l_3_69 (by decide) (Nat.le_of_ble_eq_true rfl) rfl rfl zc_8 (Nat.le_of_ble_eq_true rfl)) (Nat.le_of_ble_eq_true rfl) rfl).trans (zbV_congr fun h3 => ?_)
    refine (rn_push d_X_most_29 zcs_bipush_m9).trans ?_
    refine (rn_st d_X_most_31 rfl rfl rfl (by decide) rfl (Nat.le_of_ble_eq_true rfl) (ls' := [some (.ref 1), some (.int x1), some (.int x2), some (.int v2), some (.int (-9)), none, none, none]) rfl).trans ?_
    refine (rn_push d_X_most_33 zcs_bipush_m9).trans ?_
    refine (rn_st d_X_most_35 rfl rfl rfl (by decide) rfl (Nat.le_of_ble_eq_true rfl) (ls' := [some (.ref 1), some (.int x1), some (.int x2), some (.int v2), some (.int (-9)), some (.int (-9)), none, none]) rfl).trans ?_
    refine (rn_push d_X_most_37 zcs_iconst_0).trans ?_
    refine (rn_st d_X_most_38 rfl rfl rfl (by decide) rfl (Nat.le_of_ble_eq_true rfl) (ls' := [some (.ref 1), some (.int x1), some (.int x2), some (.int v2), some (.int (-9)), some (.int (-9)), some (.int 0), none]) rfl).trans ?_
    rfl
  · refine (rn_ld d_X_most_12 rfl rfl rfl rfl).trans ?_
    refine (rn_ld d_X_most_13 rfl rfl rfl rfl).trans ?_
    refine (rn_vI d_X_most_14 (zinv_v l_3_55 (by decide) (Nat.le_of_ble_eq_true rfl) rfl rfl zc_1 (Nat.le_of_ble_eq_true rfl)) (Nat.le_of_ble_eq_true rfl) (Or.inl rfl)).trans (zbI_congr fun v5 h4 => ?_)
    exact rn_ri d_X_most_17 rfl
theorem b_X_quiet_37 {X : zX} {x1 : Int32} {x2 : Int32} {h : zH} : zrn X 5 m_X_quiet 37 [some (.ref 1), some (.int x1), some (.int x2)] [] h = (if x1 ≤ x2 then (some (some (.int 1), h)) else (zbV (zcf X m_H_nightWithout [.ref 8, .int (-9)] h) fun h1 => (if (h1.1 8 7) = 0 then zrn X 5 m_X_quiet 37 [some (.ref 1), some (.int x1), some (.int (x2 + 1))] [] h1 else (some (some (.int 0), h1))))) := by
  refine (rn_ld d_X_quiet_37 rfl rfl rfl rfl).trans ?_
  refine (rn_ld d_X_quiet_38 rfl rfl rfl rfl).trans ?_
  refine (rn_ic_ge d_X_quiet_39 (t := 69) (by decide)).trans (zif ?_ ?_)
  · refine (rn_push d_X_quiet_69 zcs_iconst_1).trans ?_
    exact rn_ri d_X_quiet_70 rfl
  · refine (rn_ld d_X_quiet_42 rfl rfl rfl rfl).trans ?_
    refine (rn_gr d_X_quiet_43 f_3_16 zc_1 zr_1_1).trans ?_
    refine (rn_push d_X_quiet_46 zcs_bipush_m9).trans ?_
    refine (rn_vV d_X_quiet_48 (zinv_v l_3_171 (by decide) (Nat.le_of_ble_eq_true rfl) rfl rfl zc_8 (Nat.le_of_ble_eq_true rfl)) (Nat.le_of_ble_eq_true rfl) rfl).trans (zbV_congr fun h1 => ?_)
    refine (rn_ld d_X_quiet_51 rfl rfl rfl rfl).trans ?_
    refine (rn_gr d_X_quiet_52 f_3_16 zc_1 zr_1_1).trans ?_
    refine (rn_gi d_X_quiet_55 f_3_245 zc_8).trans ?_
    refine (rn_if_eq d_X_quiet_58 (t := 63) (by decide)).trans (zif ?_ ?_)
    · refine (rn_inc d_X_quiet_63 rfl (c := 1) (by decide) (ls' := [some (.ref 1), some (.int x1), some (.int (x2 + 1))]) rfl).trans ?_
      refine (rn_goto d_X_quiet_66 (t := 37) (by decide)).trans ?_
      rfl
    · refine (rn_push d_X_quiet_61 zcs_iconst_0).trans ?_
      exact rn_ri d_X_quiet_62 rfl
theorem e_X_quiet {X : zX} {x1 : Int32} {h : zH} : zcf X m_X_quiet [.ref 1, .int x1] h = (if 0 ≤ x1 then (if x1 ≤ 60 then (zbV (zcf X m_H_become [.ref 8, .ref 2] h) fun h1 => zrn X 5 m_X_quiet 37 [some (.ref 1), some (.int x1), some (.int 0)] [] h1) else (zbI (zcf X m_X_refuse [.ref 1, .int (-6)] h) fun v3 h2 => (some (some (.int v3), h2)))) else (zbI (zcf X m_X_refuse [.ref 1, .int (-4)] h) fun v5 h4 => (some (some (.int v5), h4)))) := by
  refine (zcf_run (Nat.le_of_ble_eq_true rfl)).trans ?_
  show zrn X 5 m_X_quiet 0 [some (.ref 1), some (.int x1), none] [] h = _
  refine (rn_ld d_X_quiet_0 rfl rfl rfl rfl).trans ?_
  refine (rn_if_ge d_X_quiet_1 (t := 11) (by decide)).trans (zif ?_ ?_)
  · refine (rn_ld d_X_quiet_11 rfl rfl rfl rfl).trans ?_
    refine (rn_push d_X_quiet_12 zcs_bipush_60).trans ?_
    refine (rn_ic_le d_X_quiet_14 (t := 24) (by decide)).trans (zif ?_ ?_)
    · refine (rn_ld d_X_quiet_24 rfl rfl rfl rfl).trans ?_
      refine (rn_gr d_X_quiet_25 f_3_16 zc_1 zr_1_1).trans ?_
      refine (rn_ld d_X_quiet_28 rfl rfl rfl rfl).trans ?_
      refine (rn_gr d_X_quiet_29 f_3_10 zc_1 zr_1_0).trans ?_
      refine (rn_vV d_X_quiet_32 (zinv_v l_3_69 (by decide) (Nat.le_of_ble_eq_true rfl) rfl rfl zc_8 (Nat.le_of_ble_eq_true rfl)) (Nat.le_of_ble_eq_true rfl) rfl).trans (zbV_congr fun h1 => ?_)
      refine (rn_push d_X_quiet_35 zcs_iconst_0).trans ?_
      refine (rn_st d_X_quiet_36 rfl rfl rfl (by decide) rfl (Nat.le_of_ble_eq_true rfl) (ls' := [some (.ref 1), some (.int x1), some (.int 0)]) rfl).trans ?_
      rfl
    · refine (rn_ld d_X_quiet_17 rfl rfl rfl rfl).trans ?_
      refine (rn_push d_X_quiet_18 zcs_bipush_m6).trans ?_
      refine (rn_vI d_X_quiet_20 (zinv_v l_3_55 (by decide) (Nat.le_of_ble_eq_true rfl) rfl rfl zc_1 (Nat.le_of_ble_eq_true rfl)) (Nat.le_of_ble_eq_true rfl) (Or.inl rfl)).trans (zbI_congr fun v3 h2 => ?_)
      exact rn_ri d_X_quiet_23 rfl
  · refine (rn_ld d_X_quiet_4 rfl rfl rfl rfl).trans ?_
    refine (rn_push d_X_quiet_5 zcs_bipush_m4).trans ?_
    refine (rn_vI d_X_quiet_7 (zinv_v l_3_55 (by decide) (Nat.le_of_ble_eq_true rfl) rfl rfl zc_1 (Nat.le_of_ble_eq_true rfl)) (Nat.le_of_ble_eq_true rfl) (Or.inl rfl)).trans (zbI_congr fun v5 h4 => ?_)
    exact rn_ri d_X_quiet_10 rfl
theorem e_X_row {X : zX} {x1 : Int32} {h : zH} : zcf X m_X_row [.ref 1, .int x1] h = (if 0 ≤ x1 then (if 99 < x1 then (zbI (zcf X m_X_refuse [.ref 1, .int (-6)] h) fun v2 h1 => (some (some (.int v2), h1))) else (if (h.1 1 8) < 12 then (zbV (zcf X m_X_put [.ref 73, .int (h.1 1 8), .int x1] h) fun h3 => (some (some (.int ((zup h3.1 1 8 ((h3.1 1 8) + 1)) 1 8)), ((zup h3.1 1 8 ((h3.1 1 8) + 1)), h3.2)))) else (zbI (zcf X m_X_refuse [.ref 1, .int (-6)] h) fun v5 h4 => (some (some (.int v5), h4))))) else (zbI (zcf X m_X_refuse [.ref 1, .int (-4)] h) fun v7 h6 => (some (some (.int v7), h6)))) := by
  refine (zcf_run (Nat.le_of_ble_eq_true rfl)).trans ?_
  show zrn X 2 m_X_row 0 [some (.ref 1), some (.int x1)] [] h = _
  refine (rn_ld d_X_row_0 rfl rfl rfl rfl).trans ?_
  refine (rn_if_ge d_X_row_1 (t := 11) (by decide)).trans (zif ?_ ?_)
  · refine (rn_ld d_X_row_11 rfl rfl rfl rfl).trans ?_
    refine (rn_push d_X_row_12 zcs_bipush_99).trans ?_
    refine (rn_ic_gt d_X_row_14 (t := 26) (by decide)).trans (zif ?_ ?_)
    · refine (rn_ld d_X_row_26 rfl rfl rfl rfl).trans ?_
      refine (rn_push d_X_row_27 zcs_bipush_m6).trans ?_
      refine (rn_vI d_X_row_29 (zinv_v l_3_55 (by decide) (Nat.le_of_ble_eq_true rfl) rfl rfl zc_1 (Nat.le_of_ble_eq_true rfl)) (Nat.le_of_ble_eq_true rfl) (Or.inl rfl)).trans (zbI_congr fun v2 h1 => ?_)
      exact rn_ri d_X_row_32 rfl
    · refine (rn_ld d_X_row_17 rfl rfl rfl rfl).trans ?_
      refine (rn_gi d_X_row_18 f_3_48 zc_1).trans ?_
      refine (rn_push d_X_row_21 zcs_bipush_12).trans ?_
      refine (rn_ic_lt d_X_row_23 (t := 33) (by decide)).trans (zif ?_ ?_)
      · refine (rn_ld d_X_row_33 rfl rfl rfl rfl).trans ?_
        refine (rn_gr d_X_row_34 f_3_44 zc_1 zr_1_7).trans ?_
        refine (rn_ld d_X_row_37 rfl rfl rfl rfl).trans ?_
        refine (rn_gi d_X_row_38 f_3_48 zc_1).trans ?_
        refine (rn_ld d_X_row_41 rfl rfl rfl rfl).trans ?_
        refine (rn_sV d_X_row_42 nb_3_248 (zinv_s l_3_248 (by decide) (Nat.le_of_ble_eq_true rfl) rfl rfl (Nat.le_of_ble_eq_true rfl)) (Nat.le_of_ble_eq_true rfl) rfl).trans (zbV_congr fun h3 => ?_)
        refine (rn_ld d_X_row_45 rfl rfl rfl rfl).trans ?_
        refine (rn_dup d_X_row_46 rfl).trans ?_
        refine (rn_gi d_X_row_47 f_3_48 zc_1).trans ?_
        refine (rn_push d_X_row_50 zcs_iconst_1).trans ?_
        refine (rn_a2 d_X_row_51 rfl).trans ?_
        refine (rn_pi d_X_row_52 f_3_48 zc_1).trans ?_
        refine (rn_ld d_X_row_55 rfl rfl rfl rfl).trans ?_
        refine (rn_gi d_X_row_56 f_3_48 zc_1).trans ?_
        exact rn_ri d_X_row_59 rfl
      · refine (rn_ld d_X_row_26 rfl rfl rfl rfl).trans ?_
        refine (rn_push d_X_row_27 zcs_bipush_m6).trans ?_
        refine (rn_vI d_X_row_29 (zinv_v l_3_55 (by decide) (Nat.le_of_ble_eq_true rfl) rfl rfl zc_1 (Nat.le_of_ble_eq_true rfl)) (Nat.le_of_ble_eq_true rfl) (Or.inl rfl)).trans (zbI_congr fun v5 h4 => ?_)
        exact rn_ri d_X_row_32 rfl
  · refine (rn_ld d_X_row_4 rfl rfl rfl rfl).trans ?_
    refine (rn_push d_X_row_5 zcs_bipush_m4).trans ?_
    refine (rn_vI d_X_row_7 (zinv_v l_3_55 (by decide) (Nat.le_of_ble_eq_true rfl) rfl rfl zc_1 (Nat.le_of_ble_eq_true rfl)) (Nat.le_of_ble_eq_true rfl) (Or.inl rfl)).trans (zbI_congr fun v7 h6 => ?_)
    exact rn_ri d_X_row_10 rfl
theorem b_X_judge_5 {X : zX} {x1 : Int32} {x2 : Int32} {g3 : Option Value} {h : zH} : zrn X 2 m_X_judge 5 [some (.ref 1), some (.int x1), some (.int x2), g3] [] h = (if (h.1 1 8) ≤ x2 then (some (some (.int x1), ((zup h.1 1 8 0), h.2))) else (if x1 = (-9) then (zbI (zcf X m_H_has [.ref 2, .int x2] h) fun v2 h1 => (if v2 = 0 then zrn X 2 m_X_judge 5 [some (.ref 1), some (.int x2), some (.int (x2 + 1)), some (.int 0)] [] h1 else (zbI (zcf X m_H_cellOf [.ref 2, .int x2] h1) fun v4 h3 => (zbI (zcf X m_X_at [.ref 73, .int x2] h3) fun v6 h5 => zrn X 2 m_X_judge 5 [some (.ref 1), some (.int (if (if v4 = v6 then (1 : Int32) else 0) = 0 then x2 else (-9))), some (.int (x2 + 1)), some (.int (if v4 = v6 then (1 : Int32) else 0))] [] h5)))) else (some (some (.int x1), ((zup h.1 1 8 0), h.2))))) := by
  refine (rn_ld d_X_judge_5 rfl rfl rfl rfl).trans ?_
  refine (rn_ld d_X_judge_6 rfl rfl rfl rfl).trans ?_
  refine (rn_gi d_X_judge_7 f_3_48 zc_1).trans ?_
  refine (rn_ic_ge d_X_judge_10 (t := 72) (by decide)).trans (zif ?_ ?_)
  · refine (rn_ld d_X_judge_72 rfl rfl rfl rfl).trans ?_
    refine (rn_push d_X_judge_73 zcs_iconst_0).trans ?_
    refine (rn_pi d_X_judge_74 f_3_48 zc_1).trans ?_
    refine (rn_ld d_X_judge_77 rfl rfl rfl rfl).trans ?_
    exact rn_ri d_X_judge_78 rfl
  · refine (rn_ld d_X_judge_13 rfl rfl rfl rfl).trans ?_
    refine (rn_push d_X_judge_14 zcs_bipush_m9).trans ?_
    refine (rn_ic_ne d_X_judge_16 (t := 72) (by decide)).trans (zif ?_ ?_)
    · refine (rn_ld d_X_judge_19 rfl rfl rfl rfl).trans ?_
      refine (rn_gr d_X_judge_20 f_3_10 zc_1 zr_1_0).trans ?_
      refine (rn_ld d_X_judge_23 rfl rfl rfl rfl).trans ?_
      refine (rn_vI d_X_judge_24 (zinv_v l_3_85 (by decide) (Nat.le_of_ble_eq_true rfl) rfl rfl zc_2 (Nat.le_of_ble_eq_true rfl)) (Nat.le_of_ble_eq_true rfl) (Or.inr rfl)).trans (zbI_congr fun v2 h1 => ?_)
      refine (rn_if_eq d_X_judge_27 (t := 53) (by decide)).trans (zif ?_ ?_)
      · refine (rn_push d_X_judge_53 zcs_iconst_0).trans ?_
        refine (rn_st d_X_judge_54 rfl rfl rfl (by decide) rfl (Nat.le_of_ble_eq_true rfl) (ls' := [some (.ref 1), some (.int x1), some (.int x2), some (.int 0)]) rfl).trans ?_
        refine (rn_ld d_X_judge_55 rfl rfl rfl rfl).trans ?_
        refine ((rn_if_eq d_X_judge_56 (t := 64) (by decide)).trans (if_pos (by decide))).trans ?_
        refine (rn_ld d_X_judge_64 rfl rfl rfl rfl).trans ?_
        refine (rn_st d_X_judge_65 rfl rfl rfl (by decide) rfl (Nat.le_of_ble_eq_true rfl) (ls' := [some (.ref 1), some (.int x2), some (.int x2), some (.int 0)]) rfl).trans ?_
        refine (rn_inc d_X_judge_66 rfl (c := 1) (by decide) (ls' := [some (.ref 1), some (.int x2), some (.int (x2 + 1)), some (.int 0)]) rfl).trans ?_
        refine (rn_goto d_X_judge_69 (t := 5) (by decide)).trans ?_
        rfl
      · refine (rn_ld d_X_judge_30 rfl rfl rfl rfl).trans ?_
        refine (rn_gr d_X_judge_31 f_3_10 zc_1 zr_1_0).trans ?_
        refine (rn_ld d_X_judge_34 rfl rfl rfl rfl).trans ?_
        refine (rn_vI d_X_judge_35 (zinv_v l_3_94 (by decide) (Nat.le_of_ble_eq_true rfl) rfl rfl zc_2 (Nat.le_of_ble_eq_true rfl)) (Nat.le_of_ble_eq_true rfl) (Or.inl rfl)).trans (zbI_congr fun v4 h3 => ?_)
        refine (rn_ld d_X_judge_38 rfl rfl rfl rfl).trans ?_
        refine (rn_gr d_X_judge_39 f_3_44 zc_1 zr_1_7).trans ?_
        refine (rn_ld d_X_judge_42 rfl rfl rfl rfl).trans ?_
        refine (rn_sI d_X_judge_43 nb_3_252 (zinv_s l_3_252 (by decide) (Nat.le_of_ble_eq_true rfl) rfl rfl (Nat.le_of_ble_eq_true rfl)) (Nat.le_of_ble_eq_true rfl) (Or.inl rfl)).trans (zbI_congr fun v6 h5 => ?_)
        refine Eq.trans (b := zrn X 2 m_X_judge 54 [some (.ref 1), some (.int x1), some (.int x2), g3] [.int (if v4 = v6 then (1 : Int32) else 0)] h5) ?_ ?_
        · refine (rn_ic_ne d_X_judge_46 (t := 53) (by decide)).trans ?_
          by_cases q7 : v4 = v6
          · simp only [if_pos q7]
            refine (rn_push d_X_judge_49 zcs_iconst_1).trans ?_
            refine (rn_goto d_X_judge_50 (t := 54) (by decide)).trans ?_
            all_goals rfl
          · simp only [if_neg q7]
            refine (rn_push d_X_judge_53 zcs_iconst_0).trans ?_
            all_goals rfl
        refine (rn_st d_X_judge_54 rfl rfl rfl (by decide) rfl (Nat.le_of_ble_eq_true rfl) (ls' := [some (.ref 1), some (.int x1), some (.int x2), some (.int (if v4 = v6 then (1 : Int32) else 0))]) rfl).trans ?_
        refine (rn_ld d_X_judge_55 rfl rfl rfl rfl).trans ?_
        refine Eq.trans (b := zrn X 2 m_X_judge 65 [some (.ref 1), some (.int x1), some (.int x2), some (.int (if v4 = v6 then (1 : Int32) else 0))] [.int (if (if v4 = v6 then (1 : Int32) else 0) = 0 then x2 else (-9))] h5) ?_ ?_
        · refine (rn_if_eq d_X_judge_56 (t := 64) (by decide)).trans ?_
          by_cases q8 : (if v4 = v6 then (1 : Int32) else 0) = 0
          · simp only [if_pos q8]
            refine (rn_ld d_X_judge_64 rfl rfl rfl rfl).trans ?_
            all_goals rfl
          · simp only [if_neg q8]
            refine (rn_push d_X_judge_59 zcs_bipush_m9).trans ?_
            refine (rn_goto d_X_judge_61 (t := 65) (by decide)).trans ?_
            all_goals rfl
        refine (rn_st d_X_judge_65 rfl rfl rfl (by decide) rfl (Nat.le_of_ble_eq_true rfl) (ls' := [some (.ref 1), some (.int (if (if v4 = v6 then (1 : Int32) else 0) = 0 then x2 else (-9))), some (.int x2), some (.int (if v4 = v6 then (1 : Int32) else 0))]) rfl).trans ?_
        refine (rn_inc d_X_judge_66 rfl (c := 1) (by decide) (ls' := [some (.ref 1), some (.int (if (if v4 = v6 then (1 : Int32) else 0) = 0 then x2 else (-9))), some (.int (x2 + 1)), some (.int (if v4 = v6 then (1 : Int32) else 0))]) rfl).trans ?_
        refine (rn_goto d_X_judge_69 (t := 5) (by decide)).trans ?_
        rfl
    · refine (rn_ld d_X_judge_72 rfl rfl rfl rfl).trans ?_
      refine (rn_push d_X_judge_73 zcs_iconst_0).trans ?_
      refine (rn_pi d_X_judge_74 f_3_48 zc_1).trans ?_
      refine (rn_ld d_X_judge_77 rfl rfl rfl rfl).trans ?_
      exact rn_ri d_X_judge_78 rfl
theorem e_X_judge {X : zX} {h : zH} : zcf X m_X_judge [.ref 1] h = zrn X 2 m_X_judge 5 [some (.ref 1), some (.int (-9)), some (.int 0), none] [] h := by
  refine (zcf_run (Nat.le_of_ble_eq_true rfl)).trans ?_
  show zrn X 2 m_X_judge 0 [some (.ref 1), none, none, none] [] h = _
  refine (rn_push d_X_judge_0 zcs_bipush_m9).trans ?_
  refine (rn_st d_X_judge_2 rfl rfl rfl (by decide) rfl (Nat.le_of_ble_eq_true rfl) (ls' := [some (.ref 1), some (.int (-9)), none, none]) rfl).trans ?_
  refine (rn_push d_X_judge_3 zcs_iconst_0).trans ?_
  refine (rn_st d_X_judge_4 rfl rfl rfl (by decide) rfl (Nat.le_of_ble_eq_true rfl) (ls' := [some (.ref 1), some (.int (-9)), some (.int 0), none]) rfl).trans ?_
  rfl
theorem e_X_clear {X : zX} {h : zH} : zcf X m_X_clear [.ref 1] h = (some (some (.int (h.1 1 8)), ((zup h.1 1 8 0), h.2))) := by
  refine (zcf_run (Nat.le_of_ble_eq_true rfl)).trans ?_
  show zrn X 0 m_X_clear 0 [some (.ref 1), none] [] h = _
  refine (rn_ld d_X_clear_0 rfl rfl rfl rfl).trans ?_
  refine (rn_gi d_X_clear_1 f_3_48 zc_1).trans ?_
  refine (rn_st d_X_clear_4 rfl rfl rfl (by decide) rfl (Nat.le_of_ble_eq_true rfl) (ls' := [some (.ref 1), some (.int (h.1 1 8))]) rfl).trans ?_
  refine (rn_ld d_X_clear_5 rfl rfl rfl rfl).trans ?_
  refine (rn_push d_X_clear_6 zcs_iconst_0).trans ?_
  refine (rn_pi d_X_clear_7 f_3_48 zc_1).trans ?_
  refine (rn_ld d_X_clear_10 rfl rfl rfl rfl).trans ?_
  exact rn_ri d_X_clear_11 rfl
theorem b_X_lots_53 {X : zX} {x1 : Int32} {x2 : Int32} {x3 : Int32} {x4 : Int32} {x5 : Int32} {x6 : Int32} {x7 : Int32} {g8 : Option Value} {h : zH} : zrn X 6 m_X_lots 53 [some (.ref 1), some (.int x1), some (.int x2), some (.int x3), some (.int x4), some (.int x5), some (.int x6), some (.int x7), g8] [] h = (if x1 ≤ x7 then (if x3 = 0 then (some (some (.int x5), h)) else (some (some (.int x6), h))) else (zbV (zcf X m_H_become [.ref 8, .ref 2] h) fun h1 => zrn X 6 m_X_lots 73 [some (.ref 1), some (.int x1), some (.int x2), some (.int x3), some (.int x4), some (.int x5), some (.int x6), some (.int x7), some (.int 0)] [] h1)) := by
  refine (rn_ld d_X_lots_53 rfl rfl rfl rfl).trans ?_
  refine (rn_ld d_X_lots_55 rfl rfl rfl rfl).trans ?_
  refine (rn_ic_ge d_X_lots_56 (t := 161) (by decide)).trans (zif ?_ ?_)
  · refine (rn_ld d_X_lots_161 rfl rfl rfl rfl).trans ?_
    refine (rn_if_ne d_X_lots_162 (t := 170) (by decide)).trans (zif ?_ ?_)
    · refine (rn_ld d_X_lots_165 rfl rfl rfl rfl).trans ?_
      refine (rn_goto d_X_lots_167 (t := 172) (by decide)).trans ?_
      exact rn_ri d_X_lots_172 rfl
    · refine (rn_ld d_X_lots_170 rfl rfl rfl rfl).trans ?_
      exact rn_ri d_X_lots_172 rfl
  · refine (rn_ld d_X_lots_59 rfl rfl rfl rfl).trans ?_
    refine (rn_gr d_X_lots_60 f_3_16 zc_1 zr_1_1).trans ?_
    refine (rn_ld d_X_lots_63 rfl rfl rfl rfl).trans ?_
    refine (rn_gr d_X_lots_64 f_3_10 zc_1 zr_1_0).trans ?_
    refine (rn_vV d_X_lots_67 (zinv_v l_3_69 (by decide) (Nat.le_of_ble_eq_true rfl) rfl rfl zc_8 (Nat.le_of_ble_eq_true rfl)) (Nat.le_of_ble_eq_true rfl) rfl).trans (zbV_congr fun h1 => ?_)
    refine (rn_push d_X_lots_70 zcs_iconst_0).trans ?_
    refine (rn_st d_X_lots_71 rfl rfl rfl (by decide) rfl (Nat.le_of_ble_eq_true rfl) (ls' := [some (.ref 1), some (.int x1), some (.int x2), some (.int x3), some (.int x4), some (.int x5), some (.int x6), some (.int x7), some (.int 0)]) rfl).trans ?_
    rfl
theorem b_X_lots_73 {X : zX} {x1 : Int32} {x2 : Int32} {x3 : Int32} {x4 : Int32} {x5 : Int32} {x6 : Int32} {x7 : Int32} {x8 : Int32} {h : zH} : zrn X 6 m_X_lots 73 [some (.ref 1), some (.int x1), some (.int x2), some (.int x3), some (.int x4), some (.int x5), some (.int x6), some (.int x7), some (.int x8)] [] h = (if (h.1 8 5) ≤ x8 then (zbV (zcf X m_H_pass [.ref 8, .int 10] h) fun h1 => (zbI (zcf X m_H_startsTogether [.ref 8] h1) fun v3 h2 => (zbI (zcf X m_H_startsTogether [.ref 2] h2) fun v5 h4 => (zbI (zcf X m_H_howManySee [.ref 8, .int 1] h4) fun v7 h6 => zrn X 6 m_X_lots 53 [some (.ref 1), some (.int x1), some (.int x2), some (.int x3), some (.int x4), some (.int (x5 + (v3 - v5))), some (.int (x6 + v7)), some (.int (x7 + 1)), some (.int x8)] [] h6)))) else (zbI (zcf X m_X_nextSeed [.int x4] h) fun v9 h8 => (zbI (zcf X m_X_drawOf [.int v9, .int 4] h8) fun v11 h10 => (zbV (zcf X m_H_face [.ref 8, .int x8, .int v11] h10) fun h12 => zrn X 6 m_X_lots 73 [some (.ref 1), some (.int x1), some (.int x2), some (.int x3), some (.int v9), some (.int x5), some (.int x6), some (.int x7), some (.int (x8 + 1))] [] h12)))) := by
  refine (rn_ld d_X_lots_73 rfl rfl rfl rfl).trans ?_
  refine (rn_ld d_X_lots_75 rfl rfl rfl rfl).trans ?_
  refine (rn_gr d_X_lots_76 f_3_16 zc_1 zr_1_1).trans ?_
  refine (rn_gi d_X_lots_79 f_3_112 zc_8).trans ?_
  refine (rn_ic_ge d_X_lots_82 (t := 113) (by decide)).trans (zif ?_ ?_)
  · refine (rn_ld d_X_lots_113 rfl rfl rfl rfl).trans ?_
    refine (rn_gr d_X_lots_114 f_3_16 zc_1 zr_1_1).trans ?_
    refine (rn_push d_X_lots_117 zcs_bipush_10).trans ?_
    refine (rn_vV d_X_lots_119 (zinv_v l_3_139 (by decide) (Nat.le_of_ble_eq_true rfl) rfl rfl zc_8 (Nat.le_of_ble_eq_true rfl)) (Nat.le_of_ble_eq_true rfl) rfl).trans (zbV_congr fun h1 => ?_)
    refine (rn_ld d_X_lots_122 rfl rfl rfl rfl).trans ?_
    refine (rn_ld d_X_lots_124 rfl rfl rfl rfl).trans ?_
    refine (rn_gr d_X_lots_125 f_3_16 zc_1 zr_1_1).trans ?_
    refine (rn_vI d_X_lots_128 (zinv_v l_3_143 (by decide) (Nat.le_of_ble_eq_true rfl) rfl rfl zc_8 (Nat.le_of_ble_eq_true rfl)) (Nat.le_of_ble_eq_true rfl) (Or.inl rfl)).trans (zbI_congr fun v3 h2 => ?_)
    refine (rn_ld d_X_lots_131 rfl rfl rfl rfl).trans ?_
    refine (rn_gr d_X_lots_132 f_3_10 zc_1 zr_1_0).trans ?_
    refine (rn_vI d_X_lots_135 (zinv_v l_3_143 (by decide) (Nat.le_of_ble_eq_true rfl) rfl rfl zc_2 (Nat.le_of_ble_eq_true rfl)) (Nat.le_of_ble_eq_true rfl) (Or.inl rfl)).trans (zbI_congr fun v5 h4 => ?_)
    refine (rn_a2 d_X_lots_138 rfl).trans ?_
    refine (rn_a2 d_X_lots_139 rfl).trans ?_
    refine (rn_st d_X_lots_140 rfl rfl rfl (by decide) rfl (Nat.le_of_ble_eq_true rfl) (ls' := [some (.ref 1), some (.int x1), some (.int x2), some (.int x3), some (.int x4), some (.int (x5 + (v3 - v5))), some (.int x6), some (.int x7), some (.int x8)]) rfl).trans ?_
    refine (rn_ld d_X_lots_142 rfl rfl rfl rfl).trans ?_
    refine (rn_ld d_X_lots_144 rfl rfl rfl rfl).trans ?_
    refine (rn_gr d_X_lots_145 f_3_16 zc_1 zr_1_1).trans ?_
    refine (rn_push d_X_lots_148 zcs_iconst_1).trans ?_
    refine (rn_vI d_X_lots_149 (zinv_v l_3_262 (by decide) (Nat.le_of_ble_eq_true rfl) rfl rfl zc_8 (Nat.le_of_ble_eq_true rfl)) (Nat.le_of_ble_eq_true rfl) (Or.inl rfl)).trans (zbI_congr fun v7 h6 => ?_)
    refine (rn_a2 d_X_lots_152 rfl).trans ?_
    refine (rn_st d_X_lots_153 rfl rfl rfl (by decide) rfl (Nat.le_of_ble_eq_true rfl) (ls' := [some (.ref 1), some (.int x1), some (.int x2), some (.int x3), some (.int x4), some (.int (x5 + (v3 - v5))), some (.int (x6 + v7)), some (.int x7), some (.int x8)]) rfl).trans ?_
    refine (rn_inc d_X_lots_155 rfl (c := 1) (by decide) (ls' := [some (.ref 1), some (.int x1), some (.int x2), some (.int x3), some (.int x4), some (.int (x5 + (v3 - v5))), some (.int (x6 + v7)), some (.int (x7 + 1)), some (.int x8)]) rfl).trans ?_
    refine (rn_goto d_X_lots_158 (t := 53) (by decide)).trans ?_
    rfl
  · refine (rn_ld d_X_lots_85 rfl rfl rfl rfl).trans ?_
    refine (rn_sI d_X_lots_87 nb_3_256 (zinv_s l_3_256 (by decide) (Nat.le_of_ble_eq_true rfl) rfl rfl (Nat.le_of_ble_eq_true rfl)) (Nat.le_of_ble_eq_true rfl) (Or.inl rfl)).trans (zbI_congr fun v9 h8 => ?_)
    refine (rn_st d_X_lots_90 rfl rfl rfl (by decide) rfl (Nat.le_of_ble_eq_true rfl) (ls' := [some (.ref 1), some (.int x1), some (.int x2), some (.int x3), some (.int v9), some (.int x5), some (.int x6), some (.int x7), some (.int x8)]) rfl).trans ?_
    refine (rn_ld d_X_lots_92 rfl rfl rfl rfl).trans ?_
    refine (rn_gr d_X_lots_93 f_3_16 zc_1 zr_1_1).trans ?_
    refine (rn_ld d_X_lots_96 rfl rfl rfl rfl).trans ?_
    refine (rn_ld d_X_lots_98 rfl rfl rfl rfl).trans ?_
    refine (rn_push d_X_lots_100 zcs_iconst_4).trans ?_
    refine (rn_sI d_X_lots_101 nb_3_259 (zinv_s l_3_259 (by decide) (Nat.le_of_ble_eq_true rfl) rfl rfl (Nat.le_of_ble_eq_true rfl)) (Nat.le_of_ble_eq_true rfl) (Or.inl rfl)).trans (zbI_congr fun v11 h10 => ?_)
    refine (rn_vV d_X_lots_104 (zinv_v l_3_129 (by decide) (Nat.le_of_ble_eq_true rfl) rfl rfl zc_8 (Nat.le_of_ble_eq_true rfl)) (Nat.le_of_ble_eq_true rfl) rfl).trans (zbV_congr fun h12 => ?_)
    refine (rn_inc d_X_lots_107 rfl (c := 1) (by decide) (ls' := [some (.ref 1), some (.int x1), some (.int x2), some (.int x3), some (.int v9), some (.int x5), some (.int x6), some (.int x7), some (.int (x8 + 1))]) rfl).trans ?_
    refine (rn_goto d_X_lots_110 (t := 73) (by decide)).trans ?_
    rfl
theorem e_X_lots {X : zX} {x1 : Int32} {x2 : Int32} {x3 : Int32} {h : zH} : zcf X m_X_lots [.ref 1, .int x1, .int x2, .int x3] h = (if 1 ≤ x1 then (if x1 ≤ 20 then (if x3 < 0 then (zbI (zcf X m_X_refuse [.ref 1, .int (-2)] h) fun v2 h1 => (some (some (.int v2), h1))) else (if x3 ≤ 1 then zrn X 6 m_X_lots 53 [some (.ref 1), some (.int x1), some (.int x2), some (.int x3), some (.int x2), some (.int 0), some (.int 0), some (.int 0), none] [] h else (zbI (zcf X m_X_refuse [.ref 1, .int (-2)] h) fun v4 h3 => (some (some (.int v4), h3))))) else (zbI (zcf X m_X_refuse [.ref 1, .int (-6)] h) fun v6 h5 => (some (some (.int v6), h5)))) else (zbI (zcf X m_X_refuse [.ref 1, .int (-4)] h) fun v8 h7 => (some (some (.int v8), h7)))) := by
  refine (zcf_run (Nat.le_of_ble_eq_true rfl)).trans ?_
  show zrn X 6 m_X_lots 0 [some (.ref 1), some (.int x1), some (.int x2), some (.int x3), none, none, none, none, none] [] h = _
  refine (rn_ld d_X_lots_0 rfl rfl rfl rfl).trans ?_
  refine (rn_push d_X_lots_1 zcs_iconst_1).trans ?_
  refine (rn_ic_ge d_X_lots_2 (t := 12) (by decide)).trans (zif ?_ ?_)
  · refine (rn_ld d_X_lots_12 rfl rfl rfl rfl).trans ?_
    refine (rn_push d_X_lots_13 zcs_bipush_20).trans ?_
    refine (rn_ic_le d_X_lots_15 (t := 25) (by decide)).trans (zif ?_ ?_)
    · refine (rn_ld d_X_lots_25 rfl rfl rfl rfl).trans ?_
      refine (rn_if_lt d_X_lots_26 (t := 34) (by decide)).trans (zif ?_ ?_)
      · refine (rn_ld d_X_lots_34 rfl rfl rfl rfl).trans ?_
        refine (rn_push d_X_lots_35 zcs_bipush_m2).trans ?_
        refine (rn_vI d_X_lots_37 (zinv_v l_3_55 (by decide) (Nat.le_of_ble_eq_true rfl) rfl rfl zc_1 (Nat.le_of_ble_eq_true rfl)) (Nat.le_of_ble_eq_true rfl) (Or.inl rfl)).trans (zbI_congr fun v2 h1 => ?_)
        exact rn_ri d_X_lots_40 rfl
      · refine (rn_ld d_X_lots_29 rfl rfl rfl rfl).trans ?_
        refine (rn_push d_X_lots_30 zcs_iconst_1).trans ?_
        refine (rn_ic_le d_X_lots_31 (t := 41) (by decide)).trans (zif ?_ ?_)
        · refine (rn_ld d_X_lots_41 rfl rfl rfl rfl).trans ?_
          refine (rn_st d_X_lots_42 rfl rfl rfl (by decide) rfl (Nat.le_of_ble_eq_true rfl) (ls' := [some (.ref 1), some (.int x1), some (.int x2), some (.int x3), some (.int x2), none, none, none, none]) rfl).trans ?_
          refine (rn_push d_X_lots_44 zcs_iconst_0).trans ?_
          refine (rn_st d_X_lots_45 rfl rfl rfl (by decide) rfl (Nat.le_of_ble_eq_true rfl) (ls' := [some (.ref 1), some (.int x1), some (.int x2), some (.int x3), some (.int x2), some (.int 0), none, none, none]) rfl).trans ?_
          refine (rn_push d_X_lots_47 zcs_iconst_0).trans ?_
          refine (rn_st d_X_lots_48 rfl rfl rfl (by decide) rfl (Nat.le_of_ble_eq_true rfl) (ls' := [some (.ref 1), some (.int x1), some (.int x2), some (.int x3), some (.int x2), some (.int 0), some (.int 0), none, none]) rfl).trans ?_
          refine (rn_push d_X_lots_50 zcs_iconst_0).trans ?_
          refine (rn_st d_X_lots_51 rfl rfl rfl (by decide) rfl (Nat.le_of_ble_eq_true rfl) (ls' := [some (.ref 1), some (.int x1), some (.int x2), some (.int x3), some (.int x2), some (.int 0), some (.int 0), some (.int 0), none]) rfl).trans ?_
          rfl
        · refine (rn_ld d_X_lots_34 rfl rfl rfl rfl).trans ?_
          refine (rn_push d_X_lots_35 zcs_bipush_m2).trans ?_
          refine (rn_vI d_X_lots_37 (zinv_v l_3_55 (by decide) (Nat.le_of_ble_eq_true rfl) rfl rfl zc_1 (Nat.le_of_ble_eq_true rfl)) (Nat.le_of_ble_eq_true rfl) (Or.inl rfl)).trans (zbI_congr fun v4 h3 => ?_)
          exact rn_ri d_X_lots_40 rfl
    · refine (rn_ld d_X_lots_18 rfl rfl rfl rfl).trans ?_
      refine (rn_push d_X_lots_19 zcs_bipush_m6).trans ?_
      refine (rn_vI d_X_lots_21 (zinv_v l_3_55 (by decide) (Nat.le_of_ble_eq_true rfl) rfl rfl zc_1 (Nat.le_of_ble_eq_true rfl)) (Nat.le_of_ble_eq_true rfl) (Or.inl rfl)).trans (zbI_congr fun v6 h5 => ?_)
      exact rn_ri d_X_lots_24 rfl
  · refine (rn_ld d_X_lots_5 rfl rfl rfl rfl).trans ?_
    refine (rn_push d_X_lots_6 zcs_bipush_m4).trans ?_
    refine (rn_vI d_X_lots_8 (zinv_v l_3_55 (by decide) (Nat.le_of_ble_eq_true rfl) rfl rfl zc_1 (Nat.le_of_ble_eq_true rfl)) (Nat.le_of_ble_eq_true rfl) (Or.inl rfl)).trans (zbI_congr fun v8 h7 => ?_)
    exact rn_ri d_X_lots_11 rfl
theorem e_X_nextSeed {X : zX} {x0 : Int32} {h : zH} : zcf X m_X_nextSeed [.int x0] h = (some (some (.int ((x0 * 1103515245) + 12345)), h)) := by
  refine (zcf_run (Nat.le_of_ble_eq_true rfl)).trans ?_
  show zrn X 0 m_X_nextSeed 0 [some (.int x0)] [] h = _
  refine (rn_ld d_X_nextSeed_0 rfl rfl rfl rfl).trans ?_
  refine (rn_push d_X_nextSeed_1 zcs_ldc_3_272).trans ?_
  refine (rn_a2 d_X_nextSeed_4 rfl).trans ?_
  refine (rn_push d_X_nextSeed_5 zcs_sipush_12345).trans ?_
  refine (rn_a2 d_X_nextSeed_8 rfl).trans ?_
  exact rn_ri d_X_nextSeed_9 rfl
theorem e_X_drawOf {X : zX} {x0 : Int32} {x1 : Int32} {h : zH} : zcf X m_X_drawOf [.int x0, .int x1] h = (if x1 ≤ 0 then (some (some (.int 0), h)) else (if x1 = 0 then none else (some (some (.int (zrem ((x0 &&& 2147483647) / 65536) x1)), h)))) := by
  refine (zcf_run (Nat.le_of_ble_eq_true rfl)).trans ?_
  show zrn X 0 m_X_drawOf 0 [some (.int x0), some (.int x1)] [] h = _
  refine (rn_ld d_X_drawOf_0 rfl rfl rfl rfl).trans ?_
  refine (rn_if_le d_X_drawOf_1 (t := 18) (by decide)).trans (zif ?_ ?_)
  · refine (rn_push d_X_drawOf_18 zcs_iconst_0).trans ?_
    exact rn_ri d_X_drawOf_19 rfl
  · refine (rn_ld d_X_drawOf_4 rfl rfl rfl rfl).trans ?_
    refine (rn_push d_X_drawOf_5 zcs_ldc_3_273).trans ?_
    refine (rn_a2 d_X_drawOf_8 rfl).trans ?_
    refine (rn_push d_X_drawOf_9 zcs_ldc_3_274).trans ?_
    refine (rn_a2 d_X_drawOf_12 (zar_div (by decide))).trans ?_
    refine (rn_ld d_X_drawOf_13 rfl rfl rfl rfl).trans ?_
    refine (rn_girem d_X_drawOf_14).trans (zif rfl ?_)
    refine (rn_goto d_X_drawOf_15 (t := 19) (by decide)).trans ?_
    exact rn_ri d_X_drawOf_19 rfl
theorem e_X_image {X : zX} {h : zH} : zcf X m_X_image [.ref 1] h = (zbV (zcf X m_H_become [.ref 15, .ref 2] h) fun h1 => (some (some (.int ((zup h1.1 1 4 1) 2 6)), ((zup h1.1 1 4 1), h1.2)))) := by
  refine (zcf_run (Nat.le_of_ble_eq_true rfl)).trans ?_
  show zrn X 2 m_X_image 0 [some (.ref 1)] [] h = _
  refine (rn_ld d_X_image_0 rfl rfl rfl rfl).trans ?_
  refine (rn_gr d_X_image_1 f_3_23 zc_1 zr_1_3).trans ?_
  refine (rn_ld d_X_image_4 rfl rfl rfl rfl).trans ?_
  refine (rn_gr d_X_image_5 f_3_10 zc_1 zr_1_0).trans ?_
  refine (rn_vV d_X_image_8 (zinv_v l_3_69 (by decide) (Nat.le_of_ble_eq_true rfl) rfl rfl zc_15 (Nat.le_of_ble_eq_true rfl)) (Nat.le_of_ble_eq_true rfl) rfl).trans (zbV_congr fun h1 => ?_)
  refine (rn_ld d_X_image_11 rfl rfl rfl rfl).trans ?_
  refine (rn_push d_X_image_12 zcs_iconst_1).trans ?_
  refine (rn_pz d_X_image_13 f_3_26 zc_1 (by decide)).trans ?_
  refine (rn_ld d_X_image_16 rfl rfl rfl rfl).trans ?_
  refine (rn_gr d_X_image_17 f_3_10 zc_1 zr_1_0).trans ?_
  refine (rn_gi d_X_image_20 f_3_266 zc_2).trans ?_
  exact rn_ri d_X_image_23 rfl
theorem e_X_restore {X : zX} {h : zH} : zcf X m_X_restore [.ref 1] h = (if (h.1 1 4) = 0 then (zbI (zcf X m_X_refuse [.ref 1, .int (-3)] h) fun v2 h1 => (some (some (.int v2), h1))) else (zbV (zcf X m_H_become [.ref 2, .ref 15] h) fun h3 => (zbV (zcf X m_P_forget [.ref 21] h3) fun h4 => (some (some (.int (h4.1 2 6)), h4))))) := by
  refine (zcf_run (Nat.le_of_ble_eq_true rfl)).trans ?_
  show zrn X 2 m_X_restore 0 [some (.ref 1)] [] h = _
  refine (rn_ld d_X_restore_0 rfl rfl rfl rfl).trans ?_
  refine (rn_gz d_X_restore_1 f_3_26 zc_1).trans ?_
  refine (rn_if_ne d_X_restore_4 (t := 14) (by decide)).trans (zif ?_ ?_)
  · refine (rn_ld d_X_restore_7 rfl rfl rfl rfl).trans ?_
    refine (rn_push d_X_restore_8 zcs_bipush_m3).trans ?_
    refine (rn_vI d_X_restore_10 (zinv_v l_3_55 (by decide) (Nat.le_of_ble_eq_true rfl) rfl rfl zc_1 (Nat.le_of_ble_eq_true rfl)) (Nat.le_of_ble_eq_true rfl) (Or.inl rfl)).trans (zbI_congr fun v2 h1 => ?_)
    exact rn_ri d_X_restore_13 rfl
  · refine (rn_ld d_X_restore_14 rfl rfl rfl rfl).trans ?_
    refine (rn_gr d_X_restore_15 f_3_10 zc_1 zr_1_0).trans ?_
    refine (rn_ld d_X_restore_18 rfl rfl rfl rfl).trans ?_
    refine (rn_gr d_X_restore_19 f_3_23 zc_1 zr_1_3).trans ?_
    refine (rn_vV d_X_restore_22 (zinv_v l_3_69 (by decide) (Nat.le_of_ble_eq_true rfl) rfl rfl zc_2 (Nat.le_of_ble_eq_true rfl)) (Nat.le_of_ble_eq_true rfl) rfl).trans (zbV_congr fun h3 => ?_)
    refine (rn_ld d_X_restore_25 rfl rfl rfl rfl).trans ?_
    refine (rn_gr d_X_restore_26 f_3_33 zc_1 zr_1_5).trans ?_
    refine (rn_vV d_X_restore_29 (zinv_v l_3_84 (by decide) (Nat.le_of_ble_eq_true rfl) rfl rfl zc_21 (Nat.le_of_ble_eq_true rfl)) (Nat.le_of_ble_eq_true rfl) rfl).trans (zbV_congr fun h4 => ?_)
    refine (rn_ld d_X_restore_32 rfl rfl rfl rfl).trans ?_
    refine (rn_gr d_X_restore_33 f_3_10 zc_1 zr_1_0).trans ?_
    refine (rn_gi d_X_restore_36 f_3_266 zc_2).trans ?_
    exact rn_ri d_X_restore_39 rfl
theorem e_X_count {X : zX} {x1 : Int32} {h : zH} : zcf X m_X_count [.ref 1, .int x1] h = (if x1 = 0 then (some (some (.int (h.1 2 5)), h)) else (if x1 = 1 then (some (some (.int (h.1 2 6)), h)) else (if x1 = 2 then (zbI (zcf X m_H_startsTogether [.ref 2] h) fun v5 h4 => (some (some (.int v5), h4))) else (if x1 = 3 then (zbI (zcf X m_H_howManySee [.ref 2, .int 1] h) fun v8 h7 => (some (some (.int v8), h7))) else (if x1 = 4 then (zbI (zcf X m_H_howManySee [.ref 2, .int 0] h) fun v11 h10 => (some (some (.int v11), h10))) else (if x1 = 5 then (some (some (.int (h.1 71 1)), h)) else (if x1 = 6 then (some (some (.int (h.1 1 8)), h)) else (if x1 = 7 then (some (some (.int (h.1 21 1)), h)) else (if x1 < 11 then (some (some (.int (-9)), h)) else (if 16 < x1 then (some (some (.int (-9)), h)) else (zbI (zcf X m_X_at [.ref 74, .int (x1 - 10)] h) fun v16 h15 => (some (some (.int v16), h15))))))))))))) := by
  refine (zcf_run (Nat.le_of_ble_eq_true rfl)).trans ?_
  show zrn X 4 m_X_count 0 [some (.ref 1), some (.int x1)] [] h = _
  refine (rn_ld d_X_count_0 rfl rfl rfl rfl).trans ?_
  refine zite (fun q1 => ?_) (fun q1 => ?_)
  · refine (rn_tsw d_X_count_1 (t := 48) (by rw [q1]; decide +kernel)).trans ?_
    refine (rn_ld d_X_count_48 rfl rfl rfl rfl).trans ?_
    refine (rn_gr d_X_count_49 f_3_10 zc_1 zr_1_0).trans ?_
    refine (rn_gi d_X_count_52 f_3_112 zc_2).trans ?_
    exact rn_ri d_X_count_55 rfl
  · refine zite (fun q2 => ?_) (fun q2 => ?_)
    · refine (rn_tsw d_X_count_1 (t := 56) (by rw [q2]; decide +kernel)).trans ?_
      refine (rn_ld d_X_count_56 rfl rfl rfl rfl).trans ?_
      refine (rn_gr d_X_count_57 f_3_10 zc_1 zr_1_0).trans ?_
      refine (rn_gi d_X_count_60 f_3_266 zc_2).trans ?_
      exact rn_ri d_X_count_63 rfl
    · refine zite (fun q3 => ?_) (fun q3 => ?_)
      · refine (rn_tsw d_X_count_1 (t := 64) (by rw [q3]; decide +kernel)).trans ?_
        refine (rn_ld d_X_count_64 rfl rfl rfl rfl).trans ?_
        refine (rn_gr d_X_count_65 f_3_10 zc_1 zr_1_0).trans ?_
        refine (rn_vI d_X_count_68 (zinv_v l_3_143 (by decide) (Nat.le_of_ble_eq_true rfl) rfl rfl zc_2 (Nat.le_of_ble_eq_true rfl)) (Nat.le_of_ble_eq_true rfl) (Or.inl rfl)).trans (zbI_congr fun v5 h4 => ?_)
        exact rn_ri d_X_count_71 rfl
      · refine zite (fun q6 => ?_) (fun q6 => ?_)
        · refine (rn_tsw d_X_count_1 (t := 72) (by rw [q6]; decide +kernel)).trans ?_
          refine (rn_ld d_X_count_72 rfl rfl rfl rfl).trans ?_
          refine (rn_gr d_X_count_73 f_3_10 zc_1 zr_1_0).trans ?_
          refine (rn_push d_X_count_76 zcs_iconst_1).trans ?_
          refine (rn_vI d_X_count_77 (zinv_v l_3_262 (by decide) (Nat.le_of_ble_eq_true rfl) rfl rfl zc_2 (Nat.le_of_ble_eq_true rfl)) (Nat.le_of_ble_eq_true rfl) (Or.inl rfl)).trans (zbI_congr fun v8 h7 => ?_)
          exact rn_ri d_X_count_80 rfl
        · refine zite (fun q9 => ?_) (fun q9 => ?_)
          · refine (rn_tsw d_X_count_1 (t := 81) (by rw [q9]; decide +kernel)).trans ?_
            refine (rn_ld d_X_count_81 rfl rfl rfl rfl).trans ?_
            refine (rn_gr d_X_count_82 f_3_10 zc_1 zr_1_0).trans ?_
            refine (rn_push d_X_count_85 zcs_iconst_0).trans ?_
            refine (rn_vI d_X_count_86 (zinv_v l_3_262 (by decide) (Nat.le_of_ble_eq_true rfl) rfl rfl zc_2 (Nat.le_of_ble_eq_true rfl)) (Nat.le_of_ble_eq_true rfl) (Or.inl rfl)).trans (zbI_congr fun v11 h10 => ?_)
            exact rn_ri d_X_count_89 rfl
          · refine zite (fun q12 => ?_) (fun q12 => ?_)
            · refine (rn_tsw d_X_count_1 (t := 90) (by rw [q12]; decide +kernel)).trans ?_
              refine (rn_ld d_X_count_90 rfl rfl rfl rfl).trans ?_
              refine (rn_gr d_X_count_91 f_3_40 zc_1 zr_1_6).trans ?_
              refine (rn_gi d_X_count_94 f_3_59 zc_71).trans ?_
              exact rn_ri d_X_count_97 rfl
            · refine zite (fun q13 => ?_) (fun q13 => ?_)
              · refine (rn_tsw d_X_count_1 (t := 98) (by rw [q13]; decide +kernel)).trans ?_
                refine (rn_ld d_X_count_98 rfl rfl rfl rfl).trans ?_
                refine (rn_gi d_X_count_99 f_3_48 zc_1).trans ?_
                exact rn_ri d_X_count_102 rfl
              · refine zite (fun q14 => ?_) (fun q14 => ?_)
                · refine (rn_tsw d_X_count_1 (t := 103) (by rw [q14]; decide +kernel)).trans ?_
                  refine (rn_ld d_X_count_103 rfl rfl rfl rfl).trans ?_
                  refine (rn_gr d_X_count_104 f_3_33 zc_1 zr_1_5).trans ?_
                  refine (rn_gi d_X_count_107 f_3_146 zc_21).trans ?_
                  exact rn_ri d_X_count_110 rfl
                · refine (rn_tsw d_X_count_1 (t := 111) (zsw_out (by have z0 := lv_neT q1 (a := 0) rfl; have z1 := lv_neT q2 (a := 1) rfl; have z2 := lv_neT q3 (a := 2) rfl; have z3 := lv_neT q6 (a := 3) rfl; have z4 := lv_neT q9 (a := 4) rfl; have z5 := lv_neT q12 (a := 5) rfl; have z6 := lv_neT q13 (a := 6) rfl; have z7 := lv_neT q14 (a := 7) rfl; omega) (by decide))).trans ?_
                  refine (rn_ld d_X_count_111 rfl rfl rfl rfl).trans ?_
                  refine (rn_push d_X_count_112 zcs_bipush_11).trans ?_
                  refine (rn_ic_lt d_X_count_114 (t := 137) (by decide)).trans (zif ?_ ?_)
                  · refine (rn_push d_X_count_137 zcs_bipush_m9).trans ?_
                    exact rn_ri d_X_count_139 rfl
                  · refine (rn_ld d_X_count_117 rfl rfl rfl rfl).trans ?_
                    refine (rn_push d_X_count_118 zcs_bipush_16).trans ?_
                    refine (rn_ic_gt d_X_count_120 (t := 137) (by decide)).trans (zif ?_ ?_)
                    · refine (rn_push d_X_count_137 zcs_bipush_m9).trans ?_
                      exact rn_ri d_X_count_139 rfl
                    · refine (rn_ld d_X_count_123 rfl rfl rfl rfl).trans ?_
                      refine (rn_gr d_X_count_124 f_3_52 zc_1 zr_1_9).trans ?_
                      refine (rn_ld d_X_count_127 rfl rfl rfl rfl).trans ?_
                      refine (rn_push d_X_count_128 zcs_bipush_10).trans ?_
                      refine (rn_a2 d_X_count_130 rfl).trans ?_
                      refine (rn_sI d_X_count_131 nb_3_252 (zinv_s l_3_252 (by decide) (Nat.le_of_ble_eq_true rfl) rfl rfl (Nat.le_of_ble_eq_true rfl)) (Nat.le_of_ble_eq_true rfl) (Or.inl rfl)).trans (zbI_congr fun v16 h15 => ?_)
                      refine (rn_goto d_X_count_134 (t := 139) (by decide)).trans ?_
                      exact rn_ri d_X_count_139 rfl
