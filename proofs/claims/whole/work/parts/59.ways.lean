/-! slept: the ways, a number of nights each -/
theorem zrk_wn {a b d e f : Value} {n : Int32} {r : Nat} (h : 5 + (if n < 1 ∨ 8 < n then 0 else n.toNatClampNeg) < r) : zrk m_X_waysToFace [a, b, .int n, d, e, f] < r := h
theorem e_X_ways_0 {X : zX} {a : Nat} {x3 x4 x5 : Int32} {h : zH} (H : isH a) : zcf X m_X_waysToFace [.ref a, .ref 14, .int 0, .int x3, .int x4, .int x5] h = (zbI (zcf X m_H_facesOf [.ref a, .int x3] h) fun v2 h1 => (if v2 = x4 then (some (some (.long 1), h1)) else (some (some (.long 0), h1)))) := by
  refine (zcf_run (Nat.le_of_ble_eq_true rfl)).trans ?_
  show zrn X 5 m_X_waysToFace 0 [some (.ref a), some (.ref 14), some (.int 0), some (.int x3), some (.int x4), some (.int x5), none, none, none, none] [] h = _
  refine (rn_ld d_X_waysToFace_0 rfl rfl rfl rfl).trans ?_
  refine (rn_push d_X_waysToFace_1 zcs_iconst_1).trans ?_
  refine ((rn_ic_lt d_X_waysToFace_2 (t := 11) (by decide)).trans (if_pos (by decide))).trans ?_
  refine (rn_ld d_X_waysToFace_11 rfl rfl rfl rfl).trans ?_
  refine (rn_ld d_X_waysToFace_12 rfl rfl rfl rfl).trans ?_
  refine (rn_vI d_X_waysToFace_13 (zinv_v l_3_97 (by decide) (Nat.le_of_ble_eq_true rfl) rfl rfl H.c (Nat.le_of_ble_eq_true rfl)) (Nat.le_of_ble_eq_true rfl) (Or.inl rfl)).trans (zbI_congr fun v2 h1 => ?_)
  refine (rn_ld d_X_waysToFace_16 rfl rfl rfl rfl).trans ?_
  refine (rn_ic_ne d_X_waysToFace_18 (t := 25) (by decide)).trans (zif ?_ ?_)
  · refine (rn_push d_X_waysToFace_21 zcs_lconst_1).trans ?_
    refine (rn_goto d_X_waysToFace_22 (t := 26) (by decide)).trans ?_
    exact rn_rl d_X_waysToFace_26 rfl
  · refine (rn_push d_X_waysToFace_25 zcs_lconst_0).trans ?_
    exact rn_rl d_X_waysToFace_26 rfl
theorem e_X_ways_1 {X : zX} {a : Nat} {x3 x4 x5 : Int32} {h : zH} (H : isH a) : zcf X m_X_waysToFace [.ref a, .ref 14, .int 1, .int x3, .int x4, .int x5] h = (zbV (zcf X m_H_become [.ref 75, .ref a] h) fun h1 => (zbV (zcf X m_H_nightWithout [.ref 75, .int (-9)] h1) fun h2 => (zbI (zcf X m_X_bitOf [.int x3] h2) fun v4 h3 => (zbL (zcf X m_X_waysToFace [.ref 75, .ref 14, .int 0, .int x3, .int x4, .int x5] h3) fun v7 h6 => (if (if ((h2.1 75 8) &&& v4) = 0 then (0 : Int32) else 1) = 0 then (some (some (.long ((Int32.toInt64 x5) * v7)), h6)) else (zbV (zcf X m_H_become [.ref 75, .ref a] h6) fun h8 => (zbV (zcf X m_H_nightWithout [.ref 75, .int x3] h8) fun h9 => (zbL (zcf X m_X_waysToFace [.ref 75, .ref 14, .int 0, .int x3, .int x4, .int x5] h9) fun v11 h10 => (some (some (.long (((Int32.toInt64 (x5 - 1)) * v7) + v11)), h10)))))))))) := by
  refine (zcf_run (Nat.le_of_ble_eq_true rfl)).trans ?_
  show zrn X 6 m_X_waysToFace 0 [some (.ref a), some (.ref 14), some (.int 1), some (.int x3), some (.int x4), some (.int x5), none, none, none, none] [] h = _
  refine (rn_ld d_X_waysToFace_0 rfl rfl rfl rfl).trans ?_
  refine (rn_push d_X_waysToFace_1 zcs_iconst_1).trans ?_
  refine ((rn_ic_lt d_X_waysToFace_2 (t := 11) (by decide)).trans (if_neg (by decide))).trans ?_
  refine (rn_ld d_X_waysToFace_5 rfl rfl rfl rfl).trans ?_
  refine (rn_ld d_X_waysToFace_6 rfl rfl rfl rfl).trans ?_
  refine (rn_len d_X_waysToFace_7 zc_14 (by decide)).trans ?_
  refine ((rn_ic_le d_X_waysToFace_8 (t := 27) (by decide)).trans (if_pos (by decide))).trans ?_
  refine (rn_ld d_X_waysToFace_27 rfl rfl rfl rfl).trans ?_
  refine (rn_ld d_X_waysToFace_28 rfl rfl rfl rfl).trans ?_
  refine (rn_push d_X_waysToFace_29 zcs_iconst_1).trans ?_
  refine (rn_a2 d_X_waysToFace_30 rfl).trans ?_
  refine (rn_aalc (q := 74) d_X_waysToFace_31 zc_14 (by decide) (by decide +kernel)).trans ?_
  refine (rn_st d_X_waysToFace_32 rfl rfl rfl (by decide) rfl (Nat.le_of_ble_eq_true rfl) (ls' := [some (.ref a), some (.ref 14), some (.int 1), some (.int x3), some (.int x4), some (.int x5), some (.ref 75), none, none, none]) rfl).trans ?_
  refine (rn_ld d_X_waysToFace_34 rfl rfl rfl rfl).trans ?_
  refine (rn_nn d_X_waysToFace_36 (t := 41) (by decide)).trans ?_
  refine (rn_ld d_X_waysToFace_41 rfl rfl rfl rfl).trans ?_
  refine (rn_ld d_X_waysToFace_43 rfl rfl rfl rfl).trans ?_
  refine (rn_vV d_X_waysToFace_44 (zinv_v l_3_69 (by decide) (Nat.le_of_ble_eq_true rfl) rfl rfl zc_75 (Nat.le_of_ble_eq_true rfl)) (Nat.le_of_ble_eq_true rfl) rfl).trans (zbV_congr fun h1 => ?_)
  refine (rn_ld d_X_waysToFace_47 rfl rfl rfl rfl).trans ?_
  refine (rn_push d_X_waysToFace_49 zcs_bipush_m9).trans ?_
  refine (rn_vV d_X_waysToFace_51 (zinv_v l_3_171 (by decide) (Nat.le_of_ble_eq_true rfl) rfl rfl zc_75 (Nat.le_of_ble_eq_true rfl)) (Nat.le_of_ble_eq_true rfl) rfl).trans (zbV_congr fun h2 => ?_)
  refine (rn_ld d_X_waysToFace_54 rfl rfl rfl rfl).trans ?_
  refine (rn_gi d_X_waysToFace_56 f_3_174 zc_75).trans ?_
  refine (rn_ld d_X_waysToFace_59 rfl rfl rfl rfl).trans ?_
  refine (rn_sI d_X_waysToFace_60 nb_3_177 (zinv_s l_3_177 (by decide) (Nat.le_of_ble_eq_true rfl) rfl rfl (Nat.le_of_ble_eq_true rfl)) (Nat.le_of_ble_eq_true rfl) (Or.inl rfl)).trans (zbI_congr fun v4 h3 => ?_)
  refine (rn_a2 d_X_waysToFace_63 rfl).trans ?_
  refine Eq.trans (b := zrn X 6 m_X_waysToFace 72 [some (.ref a), some (.ref 14), some (.int 1), some (.int x3), some (.int x4), some (.int x5), some (.ref 75), none, none, none] [.int (if ((h2.1 75 8) &&& v4) = 0 then (0 : Int32) else 1)] h3) ?_ ?_
  · refine (rn_if_eq d_X_waysToFace_64 (t := 71) (by decide)).trans ?_
    by_cases q5 : ((h2.1 75 8) &&& v4) = 0
    · simp only [if_pos q5]
      refine (rn_push d_X_waysToFace_71 zcs_iconst_0).trans ?_
      all_goals rfl
    · simp only [if_neg q5]
      refine (rn_push d_X_waysToFace_67 zcs_iconst_1).trans ?_
      refine (rn_goto d_X_waysToFace_68 (t := 72) (by decide)).trans ?_
      all_goals rfl
  refine (rn_st d_X_waysToFace_72 rfl rfl rfl (by decide) rfl (Nat.le_of_ble_eq_true rfl) (ls' := [some (.ref a), some (.ref 14), some (.int 1), some (.int x3), some (.int x4), some (.int x5), some (.ref 75), some (.int (if ((h2.1 75 8) &&& v4) = 0 then (0 : Int32) else 1)), none, none]) rfl).trans ?_
  refine (rn_ld d_X_waysToFace_74 rfl rfl rfl rfl).trans ?_
  refine (rn_ld d_X_waysToFace_76 rfl rfl rfl rfl).trans ?_
  refine (rn_ld d_X_waysToFace_77 rfl rfl rfl rfl).trans ?_
  refine (rn_push d_X_waysToFace_78 zcs_iconst_1).trans ?_
  refine (rn_a2 d_X_waysToFace_79 rfl).trans ?_
  refine (rn_ld d_X_waysToFace_80 rfl rfl rfl rfl).trans ?_
  refine (rn_ld d_X_waysToFace_81 rfl rfl rfl rfl).trans ?_
  refine (rn_ld d_X_waysToFace_83 rfl rfl rfl rfl).trans ?_
  refine (rn_sL d_X_waysToFace_85 nb_3_225 (zinv_s l_3_225 (by decide) (Nat.le_of_ble_eq_true rfl) rfl rfl (Nat.le_of_ble_eq_true rfl)) (zrk_wn (n := 1 - 1) (by decide)) rfl).trans (zbL_congr fun v7 h6 => ?_)
  refine (rn_st2 d_X_waysToFace_88 rfl rfl rfl (Nat.le_of_ble_eq_true rfl) (ls' := [some (.ref a), some (.ref 14), some (.int 1), some (.int x3), some (.int x4), some (.int x5), some (.ref 75), some (.int (if ((h2.1 75 8) &&& v4) = 0 then (0 : Int32) else 1)), some (.long v7), none]) rfl).trans ?_
  refine (rn_ld d_X_waysToFace_90 rfl rfl rfl rfl).trans ?_
  refine (rn_if_ne d_X_waysToFace_92 (t := 102) (by decide)).trans (zif ?_ ?_)
  · refine (rn_ld d_X_waysToFace_95 rfl rfl rfl rfl).trans ?_
    refine (rn_i2l d_X_waysToFace_97).trans ?_
    refine (rn_ld d_X_waysToFace_98 rfl rfl rfl rfl).trans ?_
    refine (rn_al d_X_waysToFace_100 rfl).trans ?_
    exact rn_rl d_X_waysToFace_101 rfl
  · refine (rn_ld d_X_waysToFace_102 rfl rfl rfl rfl).trans ?_
    refine (rn_ld d_X_waysToFace_104 rfl rfl rfl rfl).trans ?_
    refine (rn_vV d_X_waysToFace_105 (zinv_v l_3_69 (by decide) (Nat.le_of_ble_eq_true rfl) rfl rfl zc_75 (Nat.le_of_ble_eq_true rfl)) (Nat.le_of_ble_eq_true rfl) rfl).trans (zbV_congr fun h8 => ?_)
    refine (rn_ld d_X_waysToFace_108 rfl rfl rfl rfl).trans ?_
    refine (rn_ld d_X_waysToFace_110 rfl rfl rfl rfl).trans ?_
    refine (rn_vV d_X_waysToFace_111 (zinv_v l_3_171 (by decide) (Nat.le_of_ble_eq_true rfl) rfl rfl zc_75 (Nat.le_of_ble_eq_true rfl)) (Nat.le_of_ble_eq_true rfl) rfl).trans (zbV_congr fun h9 => ?_)
    refine (rn_ld d_X_waysToFace_114 rfl rfl rfl rfl).trans ?_
    refine (rn_push d_X_waysToFace_116 zcs_iconst_1).trans ?_
    refine (rn_a2 d_X_waysToFace_117 rfl).trans ?_
    refine (rn_i2l d_X_waysToFace_118).trans ?_
    refine (rn_ld d_X_waysToFace_119 rfl rfl rfl rfl).trans ?_
    refine (rn_al d_X_waysToFace_121 rfl).trans ?_
    refine (rn_ld d_X_waysToFace_122 rfl rfl rfl rfl).trans ?_
    refine (rn_ld d_X_waysToFace_124 rfl rfl rfl rfl).trans ?_
    refine (rn_ld d_X_waysToFace_125 rfl rfl rfl rfl).trans ?_
    refine (rn_push d_X_waysToFace_126 zcs_iconst_1).trans ?_
    refine (rn_a2 d_X_waysToFace_127 rfl).trans ?_
    refine (rn_ld d_X_waysToFace_128 rfl rfl rfl rfl).trans ?_
    refine (rn_ld d_X_waysToFace_129 rfl rfl rfl rfl).trans ?_
    refine (rn_ld d_X_waysToFace_131 rfl rfl rfl rfl).trans ?_
    refine (rn_sL d_X_waysToFace_133 nb_3_225 (zinv_s l_3_225 (by decide) (Nat.le_of_ble_eq_true rfl) rfl rfl (Nat.le_of_ble_eq_true rfl)) (zrk_wn (n := 1 - 1) (by decide)) rfl).trans (zbL_congr fun v11 h10 => ?_)
    refine (rn_al d_X_waysToFace_136 rfl).trans ?_
    exact rn_rl d_X_waysToFace_137 rfl
theorem e_X_ways_2 {X : zX} {a : Nat} {x3 x4 x5 : Int32} {h : zH} (H : isH a) : zcf X m_X_waysToFace [.ref a, .ref 14, .int 2, .int x3, .int x4, .int x5] h = (zbV (zcf X m_H_become [.ref 81, .ref a] h) fun h1 => (zbV (zcf X m_H_nightWithout [.ref 81, .int (-9)] h1) fun h2 => (zbI (zcf X m_X_bitOf [.int x3] h2) fun v4 h3 => (zbL (zcf X m_X_waysToFace [.ref 81, .ref 14, .int 1, .int x3, .int x4, .int x5] h3) fun v7 h6 => (if (if ((h2.1 81 8) &&& v4) = 0 then (0 : Int32) else 1) = 0 then (some (some (.long ((Int32.toInt64 x5) * v7)), h6)) else (zbV (zcf X m_H_become [.ref 81, .ref a] h6) fun h8 => (zbV (zcf X m_H_nightWithout [.ref 81, .int x3] h8) fun h9 => (zbL (zcf X m_X_waysToFace [.ref 81, .ref 14, .int 1, .int x3, .int x4, .int x5] h9) fun v11 h10 => (some (some (.long (((Int32.toInt64 (x5 - 1)) * v7) + v11)), h10)))))))))) := by
  refine (zcf_run (Nat.le_of_ble_eq_true rfl)).trans ?_
  show zrn X 7 m_X_waysToFace 0 [some (.ref a), some (.ref 14), some (.int 2), some (.int x3), some (.int x4), some (.int x5), none, none, none, none] [] h = _
  refine (rn_ld d_X_waysToFace_0 rfl rfl rfl rfl).trans ?_
  refine (rn_push d_X_waysToFace_1 zcs_iconst_1).trans ?_
  refine ((rn_ic_lt d_X_waysToFace_2 (t := 11) (by decide)).trans (if_neg (by decide))).trans ?_
  refine (rn_ld d_X_waysToFace_5 rfl rfl rfl rfl).trans ?_
  refine (rn_ld d_X_waysToFace_6 rfl rfl rfl rfl).trans ?_
  refine (rn_len d_X_waysToFace_7 zc_14 (by decide)).trans ?_
  refine ((rn_ic_le d_X_waysToFace_8 (t := 27) (by decide)).trans (if_pos (by decide))).trans ?_
  refine (rn_ld d_X_waysToFace_27 rfl rfl rfl rfl).trans ?_
  refine (rn_ld d_X_waysToFace_28 rfl rfl rfl rfl).trans ?_
  refine (rn_push d_X_waysToFace_29 zcs_iconst_1).trans ?_
  refine (rn_a2 d_X_waysToFace_30 rfl).trans ?_
  refine (rn_aalc (q := 80) d_X_waysToFace_31 zc_14 (by decide) (by decide +kernel)).trans ?_
  refine (rn_st d_X_waysToFace_32 rfl rfl rfl (by decide) rfl (Nat.le_of_ble_eq_true rfl) (ls' := [some (.ref a), some (.ref 14), some (.int 2), some (.int x3), some (.int x4), some (.int x5), some (.ref 81), none, none, none]) rfl).trans ?_
  refine (rn_ld d_X_waysToFace_34 rfl rfl rfl rfl).trans ?_
  refine (rn_nn d_X_waysToFace_36 (t := 41) (by decide)).trans ?_
  refine (rn_ld d_X_waysToFace_41 rfl rfl rfl rfl).trans ?_
  refine (rn_ld d_X_waysToFace_43 rfl rfl rfl rfl).trans ?_
  refine (rn_vV d_X_waysToFace_44 (zinv_v l_3_69 (by decide) (Nat.le_of_ble_eq_true rfl) rfl rfl zc_81 (Nat.le_of_ble_eq_true rfl)) (Nat.le_of_ble_eq_true rfl) rfl).trans (zbV_congr fun h1 => ?_)
  refine (rn_ld d_X_waysToFace_47 rfl rfl rfl rfl).trans ?_
  refine (rn_push d_X_waysToFace_49 zcs_bipush_m9).trans ?_
  refine (rn_vV d_X_waysToFace_51 (zinv_v l_3_171 (by decide) (Nat.le_of_ble_eq_true rfl) rfl rfl zc_81 (Nat.le_of_ble_eq_true rfl)) (Nat.le_of_ble_eq_true rfl) rfl).trans (zbV_congr fun h2 => ?_)
  refine (rn_ld d_X_waysToFace_54 rfl rfl rfl rfl).trans ?_
  refine (rn_gi d_X_waysToFace_56 f_3_174 zc_81).trans ?_
  refine (rn_ld d_X_waysToFace_59 rfl rfl rfl rfl).trans ?_
  refine (rn_sI d_X_waysToFace_60 nb_3_177 (zinv_s l_3_177 (by decide) (Nat.le_of_ble_eq_true rfl) rfl rfl (Nat.le_of_ble_eq_true rfl)) (Nat.le_of_ble_eq_true rfl) (Or.inl rfl)).trans (zbI_congr fun v4 h3 => ?_)
  refine (rn_a2 d_X_waysToFace_63 rfl).trans ?_
  refine Eq.trans (b := zrn X 7 m_X_waysToFace 72 [some (.ref a), some (.ref 14), some (.int 2), some (.int x3), some (.int x4), some (.int x5), some (.ref 81), none, none, none] [.int (if ((h2.1 81 8) &&& v4) = 0 then (0 : Int32) else 1)] h3) ?_ ?_
  · refine (rn_if_eq d_X_waysToFace_64 (t := 71) (by decide)).trans ?_
    by_cases q5 : ((h2.1 81 8) &&& v4) = 0
    · simp only [if_pos q5]
      refine (rn_push d_X_waysToFace_71 zcs_iconst_0).trans ?_
      all_goals rfl
    · simp only [if_neg q5]
      refine (rn_push d_X_waysToFace_67 zcs_iconst_1).trans ?_
      refine (rn_goto d_X_waysToFace_68 (t := 72) (by decide)).trans ?_
      all_goals rfl
  refine (rn_st d_X_waysToFace_72 rfl rfl rfl (by decide) rfl (Nat.le_of_ble_eq_true rfl) (ls' := [some (.ref a), some (.ref 14), some (.int 2), some (.int x3), some (.int x4), some (.int x5), some (.ref 81), some (.int (if ((h2.1 81 8) &&& v4) = 0 then (0 : Int32) else 1)), none, none]) rfl).trans ?_
  refine (rn_ld d_X_waysToFace_74 rfl rfl rfl rfl).trans ?_
  refine (rn_ld d_X_waysToFace_76 rfl rfl rfl rfl).trans ?_
  refine (rn_ld d_X_waysToFace_77 rfl rfl rfl rfl).trans ?_
  refine (rn_push d_X_waysToFace_78 zcs_iconst_1).trans ?_
  refine (rn_a2 d_X_waysToFace_79 rfl).trans ?_
  refine (rn_ld d_X_waysToFace_80 rfl rfl rfl rfl).trans ?_
  refine (rn_ld d_X_waysToFace_81 rfl rfl rfl rfl).trans ?_
  refine (rn_ld d_X_waysToFace_83 rfl rfl rfl rfl).trans ?_
  refine (rn_sL d_X_waysToFace_85 nb_3_225 (zinv_s l_3_225 (by decide) (Nat.le_of_ble_eq_true rfl) rfl rfl (Nat.le_of_ble_eq_true rfl)) (zrk_wn (n := 2 - 1) (by decide)) rfl).trans (zbL_congr fun v7 h6 => ?_)
  refine (rn_st2 d_X_waysToFace_88 rfl rfl rfl (Nat.le_of_ble_eq_true rfl) (ls' := [some (.ref a), some (.ref 14), some (.int 2), some (.int x3), some (.int x4), some (.int x5), some (.ref 81), some (.int (if ((h2.1 81 8) &&& v4) = 0 then (0 : Int32) else 1)), some (.long v7), none]) rfl).trans ?_
  refine (rn_ld d_X_waysToFace_90 rfl rfl rfl rfl).trans ?_
  refine (rn_if_ne d_X_waysToFace_92 (t := 102) (by decide)).trans (zif ?_ ?_)
  · refine (rn_ld d_X_waysToFace_95 rfl rfl rfl rfl).trans ?_
    refine (rn_i2l d_X_waysToFace_97).trans ?_
    refine (rn_ld d_X_waysToFace_98 rfl rfl rfl rfl).trans ?_
    refine (rn_al d_X_waysToFace_100 rfl).trans ?_
    exact rn_rl d_X_waysToFace_101 rfl
  · refine (rn_ld d_X_waysToFace_102 rfl rfl rfl rfl).trans ?_
    refine (rn_ld d_X_waysToFace_104 rfl rfl rfl rfl).trans ?_
    refine (rn_vV d_X_waysToFace_105 (zinv_v l_3_69 (by decide) (Nat.le_of_ble_eq_true rfl) rfl rfl zc_81 (Nat.le_of_ble_eq_true rfl)) (Nat.le_of_ble_eq_true rfl) rfl).trans (zbV_congr fun h8 => ?_)
    refine (rn_ld d_X_waysToFace_108 rfl rfl rfl rfl).trans ?_
    refine (rn_ld d_X_waysToFace_110 rfl rfl rfl rfl).trans ?_
    refine (rn_vV d_X_waysToFace_111 (zinv_v l_3_171 (by decide) (Nat.le_of_ble_eq_true rfl) rfl rfl zc_81 (Nat.le_of_ble_eq_true rfl)) (Nat.le_of_ble_eq_true rfl) rfl).trans (zbV_congr fun h9 => ?_)
    refine (rn_ld d_X_waysToFace_114 rfl rfl rfl rfl).trans ?_
    refine (rn_push d_X_waysToFace_116 zcs_iconst_1).trans ?_
    refine (rn_a2 d_X_waysToFace_117 rfl).trans ?_
    refine (rn_i2l d_X_waysToFace_118).trans ?_
    refine (rn_ld d_X_waysToFace_119 rfl rfl rfl rfl).trans ?_
    refine (rn_al d_X_waysToFace_121 rfl).trans ?_
    refine (rn_ld d_X_waysToFace_122 rfl rfl rfl rfl).trans ?_
    refine (rn_ld d_X_waysToFace_124 rfl rfl rfl rfl).trans ?_
    refine (rn_ld d_X_waysToFace_125 rfl rfl rfl rfl).trans ?_
    refine (rn_push d_X_waysToFace_126 zcs_iconst_1).trans ?_
    refine (rn_a2 d_X_waysToFace_127 rfl).trans ?_
    refine (rn_ld d_X_waysToFace_128 rfl rfl rfl rfl).trans ?_
    refine (rn_ld d_X_waysToFace_129 rfl rfl rfl rfl).trans ?_
    refine (rn_ld d_X_waysToFace_131 rfl rfl rfl rfl).trans ?_
    refine (rn_sL d_X_waysToFace_133 nb_3_225 (zinv_s l_3_225 (by decide) (Nat.le_of_ble_eq_true rfl) rfl rfl (Nat.le_of_ble_eq_true rfl)) (zrk_wn (n := 2 - 1) (by decide)) rfl).trans (zbL_congr fun v11 h10 => ?_)
    refine (rn_al d_X_waysToFace_136 rfl).trans ?_
    exact rn_rl d_X_waysToFace_137 rfl
theorem e_X_ways_3 {X : zX} {a : Nat} {x3 x4 x5 : Int32} {h : zH} (H : isH a) : zcf X m_X_waysToFace [.ref a, .ref 14, .int 3, .int x3, .int x4, .int x5] h = (zbV (zcf X m_H_become [.ref 87, .ref a] h) fun h1 => (zbV (zcf X m_H_nightWithout [.ref 87, .int (-9)] h1) fun h2 => (zbI (zcf X m_X_bitOf [.int x3] h2) fun v4 h3 => (zbL (zcf X m_X_waysToFace [.ref 87, .ref 14, .int 2, .int x3, .int x4, .int x5] h3) fun v7 h6 => (if (if ((h2.1 87 8) &&& v4) = 0 then (0 : Int32) else 1) = 0 then (some (some (.long ((Int32.toInt64 x5) * v7)), h6)) else (zbV (zcf X m_H_become [.ref 87, .ref a] h6) fun h8 => (zbV (zcf X m_H_nightWithout [.ref 87, .int x3] h8) fun h9 => (zbL (zcf X m_X_waysToFace [.ref 87, .ref 14, .int 2, .int x3, .int x4, .int x5] h9) fun v11 h10 => (some (some (.long (((Int32.toInt64 (x5 - 1)) * v7) + v11)), h10)))))))))) := by
  refine (zcf_run (Nat.le_of_ble_eq_true rfl)).trans ?_
  show zrn X 8 m_X_waysToFace 0 [some (.ref a), some (.ref 14), some (.int 3), some (.int x3), some (.int x4), some (.int x5), none, none, none, none] [] h = _
  refine (rn_ld d_X_waysToFace_0 rfl rfl rfl rfl).trans ?_
  refine (rn_push d_X_waysToFace_1 zcs_iconst_1).trans ?_
  refine ((rn_ic_lt d_X_waysToFace_2 (t := 11) (by decide)).trans (if_neg (by decide))).trans ?_
  refine (rn_ld d_X_waysToFace_5 rfl rfl rfl rfl).trans ?_
  refine (rn_ld d_X_waysToFace_6 rfl rfl rfl rfl).trans ?_
  refine (rn_len d_X_waysToFace_7 zc_14 (by decide)).trans ?_
  refine ((rn_ic_le d_X_waysToFace_8 (t := 27) (by decide)).trans (if_pos (by decide))).trans ?_
  refine (rn_ld d_X_waysToFace_27 rfl rfl rfl rfl).trans ?_
  refine (rn_ld d_X_waysToFace_28 rfl rfl rfl rfl).trans ?_
  refine (rn_push d_X_waysToFace_29 zcs_iconst_1).trans ?_
  refine (rn_a2 d_X_waysToFace_30 rfl).trans ?_
  refine (rn_aalc (q := 86) d_X_waysToFace_31 zc_14 (by decide) (by decide +kernel)).trans ?_
  refine (rn_st d_X_waysToFace_32 rfl rfl rfl (by decide) rfl (Nat.le_of_ble_eq_true rfl) (ls' := [some (.ref a), some (.ref 14), some (.int 3), some (.int x3), some (.int x4), some (.int x5), some (.ref 87), none, none, none]) rfl).trans ?_
  refine (rn_ld d_X_waysToFace_34 rfl rfl rfl rfl).trans ?_
  refine (rn_nn d_X_waysToFace_36 (t := 41) (by decide)).trans ?_
  refine (rn_ld d_X_waysToFace_41 rfl rfl rfl rfl).trans ?_
  refine (rn_ld d_X_waysToFace_43 rfl rfl rfl rfl).trans ?_
  refine (rn_vV d_X_waysToFace_44 (zinv_v l_3_69 (by decide) (Nat.le_of_ble_eq_true rfl) rfl rfl zc_87 (Nat.le_of_ble_eq_true rfl)) (Nat.le_of_ble_eq_true rfl) rfl).trans (zbV_congr fun h1 => ?_)
  refine (rn_ld d_X_waysToFace_47 rfl rfl rfl rfl).trans ?_
  refine (rn_push d_X_waysToFace_49 zcs_bipush_m9).trans ?_
  refine (rn_vV d_X_waysToFace_51 (zinv_v l_3_171 (by decide) (Nat.le_of_ble_eq_true rfl) rfl rfl zc_87 (Nat.le_of_ble_eq_true rfl)) (Nat.le_of_ble_eq_true rfl) rfl).trans (zbV_congr fun h2 => ?_)
  refine (rn_ld d_X_waysToFace_54 rfl rfl rfl rfl).trans ?_
  refine (rn_gi d_X_waysToFace_56 f_3_174 zc_87).trans ?_
  refine (rn_ld d_X_waysToFace_59 rfl rfl rfl rfl).trans ?_
  refine (rn_sI d_X_waysToFace_60 nb_3_177 (zinv_s l_3_177 (by decide) (Nat.le_of_ble_eq_true rfl) rfl rfl (Nat.le_of_ble_eq_true rfl)) (Nat.le_of_ble_eq_true rfl) (Or.inl rfl)).trans (zbI_congr fun v4 h3 => ?_)
  refine (rn_a2 d_X_waysToFace_63 rfl).trans ?_
  refine Eq.trans (b := zrn X 8 m_X_waysToFace 72 [some (.ref a), some (.ref 14), some (.int 3), some (.int x3), some (.int x4), some (.int x5), some (.ref 87), none, none, none] [.int (if ((h2.1 87 8) &&& v4) = 0 then (0 : Int32) else 1)] h3) ?_ ?_
  · refine (rn_if_eq d_X_waysToFace_64 (t := 71) (by decide)).trans ?_
    by_cases q5 : ((h2.1 87 8) &&& v4) = 0
    · simp only [if_pos q5]
      refine (rn_push d_X_waysToFace_71 zcs_iconst_0).trans ?_
      all_goals rfl
    · simp only [if_neg q5]
      refine (rn_push d_X_waysToFace_67 zcs_iconst_1).trans ?_
      refine (rn_goto d_X_waysToFace_68 (t := 72) (by decide)).trans ?_
      all_goals rfl
  refine (rn_st d_X_waysToFace_72 rfl rfl rfl (by decide) rfl (Nat.le_of_ble_eq_true rfl) (ls' := [some (.ref a), some (.ref 14), some (.int 3), some (.int x3), some (.int x4), some (.int x5), some (.ref 87), some (.int (if ((h2.1 87 8) &&& v4) = 0 then (0 : Int32) else 1)), none, none]) rfl).trans ?_
  refine (rn_ld d_X_waysToFace_74 rfl rfl rfl rfl).trans ?_
  refine (rn_ld d_X_waysToFace_76 rfl rfl rfl rfl).trans ?_
  refine (rn_ld d_X_waysToFace_77 rfl rfl rfl rfl).trans ?_
  refine (rn_push d_X_waysToFace_78 zcs_iconst_1).trans ?_
  refine (rn_a2 d_X_waysToFace_79 rfl).trans ?_
  refine (rn_ld d_X_waysToFace_80 rfl rfl rfl rfl).trans ?_
  refine (rn_ld d_X_waysToFace_81 rfl rfl rfl rfl).trans ?_
  refine (rn_ld d_X_waysToFace_83 rfl rfl rfl rfl).trans ?_
  refine (rn_sL d_X_waysToFace_85 nb_3_225 (zinv_s l_3_225 (by decide) (Nat.le_of_ble_eq_true rfl) rfl rfl (Nat.le_of_ble_eq_true rfl)) (zrk_wn (n := 3 - 1) (by decide)) rfl).trans (zbL_congr fun v7 h6 => ?_)
  refine (rn_st2 d_X_waysToFace_88 rfl rfl rfl (Nat.le_of_ble_eq_true rfl) (ls' := [some (.ref a), some (.ref 14), some (.int 3), some (.int x3), some (.int x4), some (.int x5), some (.ref 87), some (.int (if ((h2.1 87 8) &&& v4) = 0 then (0 : Int32) else 1)), some (.long v7), none]) rfl).trans ?_
  refine (rn_ld d_X_waysToFace_90 rfl rfl rfl rfl).trans ?_
  refine (rn_if_ne d_X_waysToFace_92 (t := 102) (by decide)).trans (zif ?_ ?_)
  · refine (rn_ld d_X_waysToFace_95 rfl rfl rfl rfl).trans ?_
    refine (rn_i2l d_X_waysToFace_97).trans ?_
    refine (rn_ld d_X_waysToFace_98 rfl rfl rfl rfl).trans ?_
    refine (rn_al d_X_waysToFace_100 rfl).trans ?_
    exact rn_rl d_X_waysToFace_101 rfl
  · refine (rn_ld d_X_waysToFace_102 rfl rfl rfl rfl).trans ?_
    refine (rn_ld d_X_waysToFace_104 rfl rfl rfl rfl).trans ?_
    refine (rn_vV d_X_waysToFace_105 (zinv_v l_3_69 (by decide) (Nat.le_of_ble_eq_true rfl) rfl rfl zc_87 (Nat.le_of_ble_eq_true rfl)) (Nat.le_of_ble_eq_true rfl) rfl).trans (zbV_congr fun h8 => ?_)
    refine (rn_ld d_X_waysToFace_108 rfl rfl rfl rfl).trans ?_
    refine (rn_ld d_X_waysToFace_110 rfl rfl rfl rfl).trans ?_
    refine (rn_vV d_X_waysToFace_111 (zinv_v l_3_171 (by decide) (Nat.le_of_ble_eq_true rfl) rfl rfl zc_87 (Nat.le_of_ble_eq_true rfl)) (Nat.le_of_ble_eq_true rfl) rfl).trans (zbV_congr fun h9 => ?_)
    refine (rn_ld d_X_waysToFace_114 rfl rfl rfl rfl).trans ?_
    refine (rn_push d_X_waysToFace_116 zcs_iconst_1).trans ?_
    refine (rn_a2 d_X_waysToFace_117 rfl).trans ?_
    refine (rn_i2l d_X_waysToFace_118).trans ?_
    refine (rn_ld d_X_waysToFace_119 rfl rfl rfl rfl).trans ?_
    refine (rn_al d_X_waysToFace_121 rfl).trans ?_
    refine (rn_ld d_X_waysToFace_122 rfl rfl rfl rfl).trans ?_
    refine (rn_ld d_X_waysToFace_124 rfl rfl rfl rfl).trans ?_
    refine (rn_ld d_X_waysToFace_125 rfl rfl rfl rfl).trans ?_
    refine (rn_push d_X_waysToFace_126 zcs_iconst_1).trans ?_
    refine (rn_a2 d_X_waysToFace_127 rfl).trans ?_
    refine (rn_ld d_X_waysToFace_128 rfl rfl rfl rfl).trans ?_
    refine (rn_ld d_X_waysToFace_129 rfl rfl rfl rfl).trans ?_
    refine (rn_ld d_X_waysToFace_131 rfl rfl rfl rfl).trans ?_
    refine (rn_sL d_X_waysToFace_133 nb_3_225 (zinv_s l_3_225 (by decide) (Nat.le_of_ble_eq_true rfl) rfl rfl (Nat.le_of_ble_eq_true rfl)) (zrk_wn (n := 3 - 1) (by decide)) rfl).trans (zbL_congr fun v11 h10 => ?_)
    refine (rn_al d_X_waysToFace_136 rfl).trans ?_
    exact rn_rl d_X_waysToFace_137 rfl
theorem e_X_ways_4 {X : zX} {a : Nat} {x3 x4 x5 : Int32} {h : zH} (H : isH a) : zcf X m_X_waysToFace [.ref a, .ref 14, .int 4, .int x3, .int x4, .int x5] h = (zbV (zcf X m_H_become [.ref 93, .ref a] h) fun h1 => (zbV (zcf X m_H_nightWithout [.ref 93, .int (-9)] h1) fun h2 => (zbI (zcf X m_X_bitOf [.int x3] h2) fun v4 h3 => (zbL (zcf X m_X_waysToFace [.ref 93, .ref 14, .int 3, .int x3, .int x4, .int x5] h3) fun v7 h6 => (if (if ((h2.1 93 8) &&& v4) = 0 then (0 : Int32) else 1) = 0 then (some (some (.long ((Int32.toInt64 x5) * v7)), h6)) else (zbV (zcf X m_H_become [.ref 93, .ref a] h6) fun h8 => (zbV (zcf X m_H_nightWithout [.ref 93, .int x3] h8) fun h9 => (zbL (zcf X m_X_waysToFace [.ref 93, .ref 14, .int 3, .int x3, .int x4, .int x5] h9) fun v11 h10 => (some (some (.long (((Int32.toInt64 (x5 - 1)) * v7) + v11)), h10)))))))))) := by
  refine (zcf_run (Nat.le_of_ble_eq_true rfl)).trans ?_
  show zrn X 9 m_X_waysToFace 0 [some (.ref a), some (.ref 14), some (.int 4), some (.int x3), some (.int x4), some (.int x5), none, none, none, none] [] h = _
  refine (rn_ld d_X_waysToFace_0 rfl rfl rfl rfl).trans ?_
  refine (rn_push d_X_waysToFace_1 zcs_iconst_1).trans ?_
  refine ((rn_ic_lt d_X_waysToFace_2 (t := 11) (by decide)).trans (if_neg (by decide))).trans ?_
  refine (rn_ld d_X_waysToFace_5 rfl rfl rfl rfl).trans ?_
  refine (rn_ld d_X_waysToFace_6 rfl rfl rfl rfl).trans ?_
  refine (rn_len d_X_waysToFace_7 zc_14 (by decide)).trans ?_
  refine ((rn_ic_le d_X_waysToFace_8 (t := 27) (by decide)).trans (if_pos (by decide))).trans ?_
  refine (rn_ld d_X_waysToFace_27 rfl rfl rfl rfl).trans ?_
  refine (rn_ld d_X_waysToFace_28 rfl rfl rfl rfl).trans ?_
  refine (rn_push d_X_waysToFace_29 zcs_iconst_1).trans ?_
  refine (rn_a2 d_X_waysToFace_30 rfl).trans ?_
  refine (rn_aalc (q := 92) d_X_waysToFace_31 zc_14 (by decide) (by decide +kernel)).trans ?_
  refine (rn_st d_X_waysToFace_32 rfl rfl rfl (by decide) rfl (Nat.le_of_ble_eq_true rfl) (ls' := [some (.ref a), some (.ref 14), some (.int 4), some (.int x3), some (.int x4), some (.int x5), some (.ref 93), none, none, none]) rfl).trans ?_
  refine (rn_ld d_X_waysToFace_34 rfl rfl rfl rfl).trans ?_
  refine (rn_nn d_X_waysToFace_36 (t := 41) (by decide)).trans ?_
  refine (rn_ld d_X_waysToFace_41 rfl rfl rfl rfl).trans ?_
  refine (rn_ld d_X_waysToFace_43 rfl rfl rfl rfl).trans ?_
  refine (rn_vV d_X_waysToFace_44 (zinv_v l_3_69 (by decide) (Nat.le_of_ble_eq_true rfl) rfl rfl zc_93 (Nat.le_of_ble_eq_true rfl)) (Nat.le_of_ble_eq_true rfl) rfl).trans (zbV_congr fun h1 => ?_)
  refine (rn_ld d_X_waysToFace_47 rfl rfl rfl rfl).trans ?_
  refine (rn_push d_X_waysToFace_49 zcs_bipush_m9).trans ?_
  refine (rn_vV d_X_waysToFace_51 (zinv_v l_3_171 (by decide) (Nat.le_of_ble_eq_true rfl) rfl rfl zc_93 (Nat.le_of_ble_eq_true rfl)) (Nat.le_of_ble_eq_true rfl) rfl).trans (zbV_congr fun h2 => ?_)
  refine (rn_ld d_X_waysToFace_54 rfl rfl rfl rfl).trans ?_
  refine (rn_gi d_X_waysToFace_56 f_3_174 zc_93).trans ?_
  refine (rn_ld d_X_waysToFace_59 rfl rfl rfl rfl).trans ?_
  refine (rn_sI d_X_waysToFace_60 nb_3_177 (zinv_s l_3_177 (by decide) (Nat.le_of_ble_eq_true rfl) rfl rfl (Nat.le_of_ble_eq_true rfl)) (Nat.le_of_ble_eq_true rfl) (Or.inl rfl)).trans (zbI_congr fun v4 h3 => ?_)
  refine (rn_a2 d_X_waysToFace_63 rfl).trans ?_
  refine Eq.trans (b := zrn X 9 m_X_waysToFace 72 [some (.ref a), some (.ref 14), some (.int 4), some (.int x3), some (.int x4), some (.int x5), some (.ref 93), none, none, none] [.int (if ((h2.1 93 8) &&& v4) = 0 then (0 : Int32) else 1)] h3) ?_ ?_
  · refine (rn_if_eq d_X_waysToFace_64 (t := 71) (by decide)).trans ?_
    by_cases q5 : ((h2.1 93 8) &&& v4) = 0
    · simp only [if_pos q5]
      refine (rn_push d_X_waysToFace_71 zcs_iconst_0).trans ?_
      all_goals rfl
    · simp only [if_neg q5]
      refine (rn_push d_X_waysToFace_67 zcs_iconst_1).trans ?_
      refine (rn_goto d_X_waysToFace_68 (t := 72) (by decide)).trans ?_
      all_goals rfl
  refine (rn_st d_X_waysToFace_72 rfl rfl rfl (by decide) rfl (Nat.le_of_ble_eq_true rfl) (ls' := [some (.ref a), some (.ref 14), some (.int 4), some (.int x3), some (.int x4), some (.int x5), some (.ref 93), some (.int (if ((h2.1 93 8) &&& v4) = 0 then (0 : Int32) else 1)), none, none]) rfl).trans ?_
  refine (rn_ld d_X_waysToFace_74 rfl rfl rfl rfl).trans ?_
  refine (rn_ld d_X_waysToFace_76 rfl rfl rfl rfl).trans ?_
  refine (rn_ld d_X_waysToFace_77 rfl rfl rfl rfl).trans ?_
  refine (rn_push d_X_waysToFace_78 zcs_iconst_1).trans ?_
  refine (rn_a2 d_X_waysToFace_79 rfl).trans ?_
  refine (rn_ld d_X_waysToFace_80 rfl rfl rfl rfl).trans ?_
  refine (rn_ld d_X_waysToFace_81 rfl rfl rfl rfl).trans ?_
  refine (rn_ld d_X_waysToFace_83 rfl rfl rfl rfl).trans ?_
  refine (rn_sL d_X_waysToFace_85 nb_3_225 (zinv_s l_3_225 (by decide) (Nat.le_of_ble_eq_true rfl) rfl rfl (Nat.le_of_ble_eq_true rfl)) (zrk_wn (n := 4 - 1) (by decide)) rfl).trans (zbL_congr fun v7 h6 => ?_)
  refine (rn_st2 d_X_waysToFace_88 rfl rfl rfl (Nat.le_of_ble_eq_true rfl) (ls' := [some (.ref a), some (.ref 14), some (.int 4), some (.int x3), some (.int x4), some (.int x5), some (.ref 93), some (.int (if ((h2.1 93 8) &&& v4) = 0 then (0 : Int32) else 1)), some (.long v7), none]) rfl).trans ?_
  refine (rn_ld d_X_waysToFace_90 rfl rfl rfl rfl).trans ?_
  refine (rn_if_ne d_X_waysToFace_92 (t := 102) (by decide)).trans (zif ?_ ?_)
  · refine (rn_ld d_X_waysToFace_95 rfl rfl rfl rfl).trans ?_
    refine (rn_i2l d_X_waysToFace_97).trans ?_
    refine (rn_ld d_X_waysToFace_98 rfl rfl rfl rfl).trans ?_
    refine (rn_al d_X_waysToFace_100 rfl).trans ?_
    exact rn_rl d_X_waysToFace_101 rfl
  · refine (rn_ld d_X_waysToFace_102 rfl rfl rfl rfl).trans ?_
    refine (rn_ld d_X_waysToFace_104 rfl rfl rfl rfl).trans ?_
    refine (rn_vV d_X_waysToFace_105 (zinv_v l_3_69 (by decide) (Nat.le_of_ble_eq_true rfl) rfl rfl zc_93 (Nat.le_of_ble_eq_true rfl)) (Nat.le_of_ble_eq_true rfl) rfl).trans (zbV_congr fun h8 => ?_)
    refine (rn_ld d_X_waysToFace_108 rfl rfl rfl rfl).trans ?_
    refine (rn_ld d_X_waysToFace_110 rfl rfl rfl rfl).trans ?_
    refine (rn_vV d_X_waysToFace_111 (zinv_v l_3_171 (by decide) (Nat.le_of_ble_eq_true rfl) rfl rfl zc_93 (Nat.le_of_ble_eq_true rfl)) (Nat.le_of_ble_eq_true rfl) rfl).trans (zbV_congr fun h9 => ?_)
    refine (rn_ld d_X_waysToFace_114 rfl rfl rfl rfl).trans ?_
    refine (rn_push d_X_waysToFace_116 zcs_iconst_1).trans ?_
    refine (rn_a2 d_X_waysToFace_117 rfl).trans ?_
    refine (rn_i2l d_X_waysToFace_118).trans ?_
    refine (rn_ld d_X_waysToFace_119 rfl rfl rfl rfl).trans ?_
    refine (rn_al d_X_waysToFace_121 rfl).trans ?_
    refine (rn_ld d_X_waysToFace_122 rfl rfl rfl rfl).trans ?_
    refine (rn_ld d_X_waysToFace_124 rfl rfl rfl rfl).trans ?_
    refine (rn_ld d_X_waysToFace_125 rfl rfl rfl rfl).trans ?_
    refine (rn_push d_X_waysToFace_126 zcs_iconst_1).trans ?_
    refine (rn_a2 d_X_waysToFace_127 rfl).trans ?_
    refine (rn_ld d_X_waysToFace_128 rfl rfl rfl rfl).trans ?_
    refine (rn_ld d_X_waysToFace_129 rfl rfl rfl rfl).trans ?_
    refine (rn_ld d_X_waysToFace_131 rfl rfl rfl rfl).trans ?_
    refine (rn_sL d_X_waysToFace_133 nb_3_225 (zinv_s l_3_225 (by decide) (Nat.le_of_ble_eq_true rfl) rfl rfl (Nat.le_of_ble_eq_true rfl)) (zrk_wn (n := 4 - 1) (by decide)) rfl).trans (zbL_congr fun v11 h10 => ?_)
    refine (rn_al d_X_waysToFace_136 rfl).trans ?_
    exact rn_rl d_X_waysToFace_137 rfl
theorem e_X_ways_5 {X : zX} {a : Nat} {x3 x4 x5 : Int32} {h : zH} (H : isH a) : zcf X m_X_waysToFace [.ref a, .ref 14, .int 5, .int x3, .int x4, .int x5] h = (zbV (zcf X m_H_become [.ref 99, .ref a] h) fun h1 => (zbV (zcf X m_H_nightWithout [.ref 99, .int (-9)] h1) fun h2 => (zbI (zcf X m_X_bitOf [.int x3] h2) fun v4 h3 => (zbL (zcf X m_X_waysToFace [.ref 99, .ref 14, .int 4, .int x3, .int x4, .int x5] h3) fun v7 h6 => (if (if ((h2.1 99 8) &&& v4) = 0 then (0 : Int32) else 1) = 0 then (some (some (.long ((Int32.toInt64 x5) * v7)), h6)) else (zbV (zcf X m_H_become [.ref 99, .ref a] h6) fun h8 => (zbV (zcf X m_H_nightWithout [.ref 99, .int x3] h8) fun h9 => (zbL (zcf X m_X_waysToFace [.ref 99, .ref 14, .int 4, .int x3, .int x4, .int x5] h9) fun v11 h10 => (some (some (.long (((Int32.toInt64 (x5 - 1)) * v7) + v11)), h10)))))))))) := by
  refine (zcf_run (Nat.le_of_ble_eq_true rfl)).trans ?_
  show zrn X 10 m_X_waysToFace 0 [some (.ref a), some (.ref 14), some (.int 5), some (.int x3), some (.int x4), some (.int x5), none, none, none, none] [] h = _
  refine (rn_ld d_X_waysToFace_0 rfl rfl rfl rfl).trans ?_
  refine (rn_push d_X_waysToFace_1 zcs_iconst_1).trans ?_
  refine ((rn_ic_lt d_X_waysToFace_2 (t := 11) (by decide)).trans (if_neg (by decide))).trans ?_
  refine (rn_ld d_X_waysToFace_5 rfl rfl rfl rfl).trans ?_
  refine (rn_ld d_X_waysToFace_6 rfl rfl rfl rfl).trans ?_
  refine (rn_len d_X_waysToFace_7 zc_14 (by decide)).trans ?_
  refine ((rn_ic_le d_X_waysToFace_8 (t := 27) (by decide)).trans (if_pos (by decide))).trans ?_
  refine (rn_ld d_X_waysToFace_27 rfl rfl rfl rfl).trans ?_
  refine (rn_ld d_X_waysToFace_28 rfl rfl rfl rfl).trans ?_
  refine (rn_push d_X_waysToFace_29 zcs_iconst_1).trans ?_
  refine (rn_a2 d_X_waysToFace_30 rfl).trans ?_
  refine (rn_aalc (q := 98) d_X_waysToFace_31 zc_14 (by decide) (by decide +kernel)).trans ?_
  refine (rn_st d_X_waysToFace_32 rfl rfl rfl (by decide) rfl (Nat.le_of_ble_eq_true rfl) (ls' := [some (.ref a), some (.ref 14), some (.int 5), some (.int x3), some (.int x4), some (.int x5), some (.ref 99), none, none, none]) rfl).trans ?_
  refine (rn_ld d_X_waysToFace_34 rfl rfl rfl rfl).trans ?_
  refine (rn_nn d_X_waysToFace_36 (t := 41) (by decide)).trans ?_
  refine (rn_ld d_X_waysToFace_41 rfl rfl rfl rfl).trans ?_
  refine (rn_ld d_X_waysToFace_43 rfl rfl rfl rfl).trans ?_
  refine (rn_vV d_X_waysToFace_44 (zinv_v l_3_69 (by decide) (Nat.le_of_ble_eq_true rfl) rfl rfl zc_99 (Nat.le_of_ble_eq_true rfl)) (Nat.le_of_ble_eq_true rfl) rfl).trans (zbV_congr fun h1 => ?_)
  refine (rn_ld d_X_waysToFace_47 rfl rfl rfl rfl).trans ?_
  refine (rn_push d_X_waysToFace_49 zcs_bipush_m9).trans ?_
  refine (rn_vV d_X_waysToFace_51 (zinv_v l_3_171 (by decide) (Nat.le_of_ble_eq_true rfl) rfl rfl zc_99 (Nat.le_of_ble_eq_true rfl)) (Nat.le_of_ble_eq_true rfl) rfl).trans (zbV_congr fun h2 => ?_)
  refine (rn_ld d_X_waysToFace_54 rfl rfl rfl rfl).trans ?_
  refine (rn_gi d_X_waysToFace_56 f_3_174 zc_99).trans ?_
  refine (rn_ld d_X_waysToFace_59 rfl rfl rfl rfl).trans ?_
  refine (rn_sI d_X_waysToFace_60 nb_3_177 (zinv_s l_3_177 (by decide) (Nat.le_of_ble_eq_true rfl) rfl rfl (Nat.le_of_ble_eq_true rfl)) (Nat.le_of_ble_eq_true rfl) (Or.inl rfl)).trans (zbI_congr fun v4 h3 => ?_)
  refine (rn_a2 d_X_waysToFace_63 rfl).trans ?_
  refine Eq.trans (b := zrn X 10 m_X_waysToFace 72 [some (.ref a), some (.ref 14), some (.int 5), some (.int x3), some (.int x4), some (.int x5), some (.ref 99), none, none, none] [.int (if ((h2.1 99 8) &&& v4) = 0 then (0 : Int32) else 1)] h3) ?_ ?_
  · refine (rn_if_eq d_X_waysToFace_64 (t := 71) (by decide)).trans ?_
    by_cases q5 : ((h2.1 99 8) &&& v4) = 0
    · simp only [if_pos q5]
      refine (rn_push d_X_waysToFace_71 zcs_iconst_0).trans ?_
      all_goals rfl
    · simp only [if_neg q5]
      refine (rn_push d_X_waysToFace_67 zcs_iconst_1).trans ?_
      refine (rn_goto d_X_waysToFace_68 (t := 72) (by decide)).trans ?_
      all_goals rfl
  refine (rn_st d_X_waysToFace_72 rfl rfl rfl (by decide) rfl (Nat.le_of_ble_eq_true rfl) (ls' := [some (.ref a), some (.ref 14), some (.int 5), some (.int x3), some (.int x4), some (.int x5), some (.ref 99), some (.int (if ((h2.1 99 8) &&& v4) = 0 then (0 : Int32) else 1)), none, none]) rfl).trans ?_
  refine (rn_ld d_X_waysToFace_74 rfl rfl rfl rfl).trans ?_
  refine (rn_ld d_X_waysToFace_76 rfl rfl rfl rfl).trans ?_
  refine (rn_ld d_X_waysToFace_77 rfl rfl rfl rfl).trans ?_
  refine (rn_push d_X_waysToFace_78 zcs_iconst_1).trans ?_
  refine (rn_a2 d_X_waysToFace_79 rfl).trans ?_
  refine (rn_ld d_X_waysToFace_80 rfl rfl rfl rfl).trans ?_
  refine (rn_ld d_X_waysToFace_81 rfl rfl rfl rfl).trans ?_
  refine (rn_ld d_X_waysToFace_83 rfl rfl rfl rfl).trans ?_
  refine (rn_sL d_X_waysToFace_85 nb_3_225 (zinv_s l_3_225 (by decide) (Nat.le_of_ble_eq_true rfl) rfl rfl (Nat.le_of_ble_eq_true rfl)) (zrk_wn (n := 5 - 1) (by decide)) rfl).trans (zbL_congr fun v7 h6 => ?_)
  refine (rn_st2 d_X_waysToFace_88 rfl rfl rfl (Nat.le_of_ble_eq_true rfl) (ls' := [some (.ref a), some (.ref 14), some (.int 5), some (.int x3), some (.int x4), some (.int x5), some (.ref 99), some (.int (if ((h2.1 99 8) &&& v4) = 0 then (0 : Int32) else 1)), some (.long v7), none]) rfl).trans ?_
  refine (rn_ld d_X_waysToFace_90 rfl rfl rfl rfl).trans ?_
  refine (rn_if_ne d_X_waysToFace_92 (t := 102) (by decide)).trans (zif ?_ ?_)
  · refine (rn_ld d_X_waysToFace_95 rfl rfl rfl rfl).trans ?_
    refine (rn_i2l d_X_waysToFace_97).trans ?_
    refine (rn_ld d_X_waysToFace_98 rfl rfl rfl rfl).trans ?_
    refine (rn_al d_X_waysToFace_100 rfl).trans ?_
    exact rn_rl d_X_waysToFace_101 rfl
  · refine (rn_ld d_X_waysToFace_102 rfl rfl rfl rfl).trans ?_
    refine (rn_ld d_X_waysToFace_104 rfl rfl rfl rfl).trans ?_
    refine (rn_vV d_X_waysToFace_105 (zinv_v l_3_69 (by decide) (Nat.le_of_ble_eq_true rfl) rfl rfl zc_99 (Nat.le_of_ble_eq_true rfl)) (Nat.le_of_ble_eq_true rfl) rfl).trans (zbV_congr fun h8 => ?_)
    refine (rn_ld d_X_waysToFace_108 rfl rfl rfl rfl).trans ?_
    refine (rn_ld d_X_waysToFace_110 rfl rfl rfl rfl).trans ?_
    refine (rn_vV d_X_waysToFace_111 (zinv_v l_3_171 (by decide) (Nat.le_of_ble_eq_true rfl) rfl rfl zc_99 (Nat.le_of_ble_eq_true rfl)) (Nat.le_of_ble_eq_true rfl) rfl).trans (zbV_congr fun h9 => ?_)
    refine (rn_ld d_X_waysToFace_114 rfl rfl rfl rfl).trans ?_
    refine (rn_push d_X_waysToFace_116 zcs_iconst_1).trans ?_
    refine (rn_a2 d_X_waysToFace_117 rfl).trans ?_
    refine (rn_i2l d_X_waysToFace_118).trans ?_
    refine (rn_ld d_X_waysToFace_119 rfl rfl rfl rfl).trans ?_
    refine (rn_al d_X_waysToFace_121 rfl).trans ?_
    refine (rn_ld d_X_waysToFace_122 rfl rfl rfl rfl).trans ?_
    refine (rn_ld d_X_waysToFace_124 rfl rfl rfl rfl).trans ?_
    refine (rn_ld d_X_waysToFace_125 rfl rfl rfl rfl).trans ?_
    refine (rn_push d_X_waysToFace_126 zcs_iconst_1).trans ?_
    refine (rn_a2 d_X_waysToFace_127 rfl).trans ?_
    refine (rn_ld d_X_waysToFace_128 rfl rfl rfl rfl).trans ?_
    refine (rn_ld d_X_waysToFace_129 rfl rfl rfl rfl).trans ?_
    refine (rn_ld d_X_waysToFace_131 rfl rfl rfl rfl).trans ?_
    refine (rn_sL d_X_waysToFace_133 nb_3_225 (zinv_s l_3_225 (by decide) (Nat.le_of_ble_eq_true rfl) rfl rfl (Nat.le_of_ble_eq_true rfl)) (zrk_wn (n := 5 - 1) (by decide)) rfl).trans (zbL_congr fun v11 h10 => ?_)
    refine (rn_al d_X_waysToFace_136 rfl).trans ?_
    exact rn_rl d_X_waysToFace_137 rfl
theorem e_X_ways_6 {X : zX} {a : Nat} {x3 x4 x5 : Int32} {h : zH} (H : isH a) : zcf X m_X_waysToFace [.ref a, .ref 14, .int 6, .int x3, .int x4, .int x5] h = (zbV (zcf X m_H_become [.ref 105, .ref a] h) fun h1 => (zbV (zcf X m_H_nightWithout [.ref 105, .int (-9)] h1) fun h2 => (zbI (zcf X m_X_bitOf [.int x3] h2) fun v4 h3 => (zbL (zcf X m_X_waysToFace [.ref 105, .ref 14, .int 5, .int x3, .int x4, .int x5] h3) fun v7 h6 => (if (if ((h2.1 105 8) &&& v4) = 0 then (0 : Int32) else 1) = 0 then (some (some (.long ((Int32.toInt64 x5) * v7)), h6)) else (zbV (zcf X m_H_become [.ref 105, .ref a] h6) fun h8 => (zbV (zcf X m_H_nightWithout [.ref 105, .int x3] h8) fun h9 => (zbL (zcf X m_X_waysToFace [.ref 105, .ref 14, .int 5, .int x3, .int x4, .int x5] h9) fun v11 h10 => (some (some (.long (((Int32.toInt64 (x5 - 1)) * v7) + v11)), h10)))))))))) := by
  refine (zcf_run (Nat.le_of_ble_eq_true rfl)).trans ?_
  show zrn X 11 m_X_waysToFace 0 [some (.ref a), some (.ref 14), some (.int 6), some (.int x3), some (.int x4), some (.int x5), none, none, none, none] [] h = _
  refine (rn_ld d_X_waysToFace_0 rfl rfl rfl rfl).trans ?_
  refine (rn_push d_X_waysToFace_1 zcs_iconst_1).trans ?_
  refine ((rn_ic_lt d_X_waysToFace_2 (t := 11) (by decide)).trans (if_neg (by decide))).trans ?_
  refine (rn_ld d_X_waysToFace_5 rfl rfl rfl rfl).trans ?_
  refine (rn_ld d_X_waysToFace_6 rfl rfl rfl rfl).trans ?_
  refine (rn_len d_X_waysToFace_7 zc_14 (by decide)).trans ?_
  refine ((rn_ic_le d_X_waysToFace_8 (t := 27) (by decide)).trans (if_pos (by decide))).trans ?_
  refine (rn_ld d_X_waysToFace_27 rfl rfl rfl rfl).trans ?_
  refine (rn_ld d_X_waysToFace_28 rfl rfl rfl rfl).trans ?_
  refine (rn_push d_X_waysToFace_29 zcs_iconst_1).trans ?_
  refine (rn_a2 d_X_waysToFace_30 rfl).trans ?_
  refine (rn_aalc (q := 104) d_X_waysToFace_31 zc_14 (by decide) (by decide +kernel)).trans ?_
  refine (rn_st d_X_waysToFace_32 rfl rfl rfl (by decide) rfl (Nat.le_of_ble_eq_true rfl) (ls' := [some (.ref a), some (.ref 14), some (.int 6), some (.int x3), some (.int x4), some (.int x5), some (.ref 105), none, none, none]) rfl).trans ?_
  refine (rn_ld d_X_waysToFace_34 rfl rfl rfl rfl).trans ?_
  refine (rn_nn d_X_waysToFace_36 (t := 41) (by decide)).trans ?_
  refine (rn_ld d_X_waysToFace_41 rfl rfl rfl rfl).trans ?_
  refine (rn_ld d_X_waysToFace_43 rfl rfl rfl rfl).trans ?_
  refine (rn_vV d_X_waysToFace_44 (zinv_v l_3_69 (by decide) (Nat.le_of_ble_eq_true rfl) rfl rfl zc_105 (Nat.le_of_ble_eq_true rfl)) (Nat.le_of_ble_eq_true rfl) rfl).trans (zbV_congr fun h1 => ?_)
  refine (rn_ld d_X_waysToFace_47 rfl rfl rfl rfl).trans ?_
  refine (rn_push d_X_waysToFace_49 zcs_bipush_m9).trans ?_
  refine (rn_vV d_X_waysToFace_51 (zinv_v l_3_171 (by decide) (Nat.le_of_ble_eq_true rfl) rfl rfl zc_105 (Nat.le_of_ble_eq_true rfl)) (Nat.le_of_ble_eq_true rfl) rfl).trans (zbV_congr fun h2 => ?_)
  refine (rn_ld d_X_waysToFace_54 rfl rfl rfl rfl).trans ?_
  refine (rn_gi d_X_waysToFace_56 f_3_174 zc_105).trans ?_
  refine (rn_ld d_X_waysToFace_59 rfl rfl rfl rfl).trans ?_
  refine (rn_sI d_X_waysToFace_60 nb_3_177 (zinv_s l_3_177 (by decide) (Nat.le_of_ble_eq_true rfl) rfl rfl (Nat.le_of_ble_eq_true rfl)) (Nat.le_of_ble_eq_true rfl) (Or.inl rfl)).trans (zbI_congr fun v4 h3 => ?_)
  refine (rn_a2 d_X_waysToFace_63 rfl).trans ?_
  refine Eq.trans (b := zrn X 11 m_X_waysToFace 72 [some (.ref a), some (.ref 14), some (.int 6), some (.int x3), some (.int x4), some (.int x5), some (.ref 105), none, none, none] [.int (if ((h2.1 105 8) &&& v4) = 0 then (0 : Int32) else 1)] h3) ?_ ?_
  · refine (rn_if_eq d_X_waysToFace_64 (t := 71) (by decide)).trans ?_
    by_cases q5 : ((h2.1 105 8) &&& v4) = 0
    · simp only [if_pos q5]
      refine (rn_push d_X_waysToFace_71 zcs_iconst_0).trans ?_
      all_goals rfl
    · simp only [if_neg q5]
      refine (rn_push d_X_waysToFace_67 zcs_iconst_1).trans ?_
      refine (rn_goto d_X_waysToFace_68 (t := 72) (by decide)).trans ?_
      all_goals rfl
  refine (rn_st d_X_waysToFace_72 rfl rfl rfl (by decide) rfl (Nat.le_of_ble_eq_true rfl) (ls' := [some (.ref a), some (.ref 14), some (.int 6), some (.int x3), some (.int x4), some (.int x5), some (.ref 105), some (.int (if ((h2.1 105 8) &&& v4) = 0 then (0 : Int32) else 1)), none, none]) rfl).trans ?_
  refine (rn_ld d_X_waysToFace_74 rfl rfl rfl rfl).trans ?_
  refine (rn_ld d_X_waysToFace_76 rfl rfl rfl rfl).trans ?_
  refine (rn_ld d_X_waysToFace_77 rfl rfl rfl rfl).trans ?_
  refine (rn_push d_X_waysToFace_78 zcs_iconst_1).trans ?_
  refine (rn_a2 d_X_waysToFace_79 rfl).trans ?_
  refine (rn_ld d_X_waysToFace_80 rfl rfl rfl rfl).trans ?_
  refine (rn_ld d_X_waysToFace_81 rfl rfl rfl rfl).trans ?_
  refine (rn_ld d_X_waysToFace_83 rfl rfl rfl rfl).trans ?_
  refine (rn_sL d_X_waysToFace_85 nb_3_225 (zinv_s l_3_225 (by decide) (Nat.le_of_ble_eq_true rfl) rfl rfl (Nat.le_of_ble_eq_true rfl)) (zrk_wn (n := 6 - 1) (by decide)) rfl).trans (zbL_congr fun v7 h6 => ?_)
  refine (rn_st2 d_X_waysToFace_88 rfl rfl rfl (Nat.le_of_ble_eq_true rfl) (ls' := [some (.ref a), some (.ref 14), some (.int 6), some (.int x3), some (.int x4), some (.int x5), some (.ref 105), some (.int (if ((h2.1 105 8) &&& v4) = 0 then (0 : Int32) else 1)), some (.long v7), none]) rfl).trans ?_
  refine (rn_ld d_X_waysToFace_90 rfl rfl rfl rfl).trans ?_
  refine (rn_if_ne d_X_waysToFace_92 (t := 102) (by decide)).trans (zif ?_ ?_)
  · refine (rn_ld d_X_waysToFace_95 rfl rfl rfl rfl).trans ?_
    refine (rn_i2l d_X_waysToFace_97).trans ?_
    refine (rn_ld d_X_waysToFace_98 rfl rfl rfl rfl).trans ?_
    refine (rn_al d_X_waysToFace_100 rfl).trans ?_
    exact rn_rl d_X_waysToFace_101 rfl
  · refine (rn_ld d_X_waysToFace_102 rfl rfl rfl rfl).trans ?_
    refine (rn_ld d_X_waysToFace_104 rfl rfl rfl rfl).trans ?_
    refine (rn_vV d_X_waysToFace_105 (zinv_v l_3_69 (by decide) (Nat.le_of_ble_eq_true rfl) rfl rfl zc_105 (Nat.le_of_ble_eq_true rfl)) (Nat.le_of_ble_eq_true rfl) rfl).trans (zbV_congr fun h8 => ?_)
    refine (rn_ld d_X_waysToFace_108 rfl rfl rfl rfl).trans ?_
    refine (rn_ld d_X_waysToFace_110 rfl rfl rfl rfl).trans ?_
    refine (rn_vV d_X_waysToFace_111 (zinv_v l_3_171 (by decide) (Nat.le_of_ble_eq_true rfl) rfl rfl zc_105 (Nat.le_of_ble_eq_true rfl)) (Nat.le_of_ble_eq_true rfl) rfl).trans (zbV_congr fun h9 => ?_)
    refine (rn_ld d_X_waysToFace_114 rfl rfl rfl rfl).trans ?_
    refine (rn_push d_X_waysToFace_116 zcs_iconst_1).trans ?_
    refine (rn_a2 d_X_waysToFace_117 rfl).trans ?_
    refine (rn_i2l d_X_waysToFace_118).trans ?_
    refine (rn_ld d_X_waysToFace_119 rfl rfl rfl rfl).trans ?_
    refine (rn_al d_X_waysToFace_121 rfl).trans ?_
    refine (rn_ld d_X_waysToFace_122 rfl rfl rfl rfl).trans ?_
    refine (rn_ld d_X_waysToFace_124 rfl rfl rfl rfl).trans ?_
    refine (rn_ld d_X_waysToFace_125 rfl rfl rfl rfl).trans ?_
    refine (rn_push d_X_waysToFace_126 zcs_iconst_1).trans ?_
    refine (rn_a2 d_X_waysToFace_127 rfl).trans ?_
    refine (rn_ld d_X_waysToFace_128 rfl rfl rfl rfl).trans ?_
    refine (rn_ld d_X_waysToFace_129 rfl rfl rfl rfl).trans ?_
    refine (rn_ld d_X_waysToFace_131 rfl rfl rfl rfl).trans ?_
    refine (rn_sL d_X_waysToFace_133 nb_3_225 (zinv_s l_3_225 (by decide) (Nat.le_of_ble_eq_true rfl) rfl rfl (Nat.le_of_ble_eq_true rfl)) (zrk_wn (n := 6 - 1) (by decide)) rfl).trans (zbL_congr fun v11 h10 => ?_)
    refine (rn_al d_X_waysToFace_136 rfl).trans ?_
    exact rn_rl d_X_waysToFace_137 rfl
theorem e_X_ways_7 {X : zX} {a : Nat} {x3 x4 x5 : Int32} {h : zH} (H : isH a) : zcf X m_X_waysToFace [.ref a, .ref 14, .int 7, .int x3, .int x4, .int x5] h = (zbV (zcf X m_H_become [.ref 111, .ref a] h) fun h1 => (zbV (zcf X m_H_nightWithout [.ref 111, .int (-9)] h1) fun h2 => (zbI (zcf X m_X_bitOf [.int x3] h2) fun v4 h3 => (zbL (zcf X m_X_waysToFace [.ref 111, .ref 14, .int 6, .int x3, .int x4, .int x5] h3) fun v7 h6 => (if (if ((h2.1 111 8) &&& v4) = 0 then (0 : Int32) else 1) = 0 then (some (some (.long ((Int32.toInt64 x5) * v7)), h6)) else (zbV (zcf X m_H_become [.ref 111, .ref a] h6) fun h8 => (zbV (zcf X m_H_nightWithout [.ref 111, .int x3] h8) fun h9 => (zbL (zcf X m_X_waysToFace [.ref 111, .ref 14, .int 6, .int x3, .int x4, .int x5] h9) fun v11 h10 => (some (some (.long (((Int32.toInt64 (x5 - 1)) * v7) + v11)), h10)))))))))) := by
  refine (zcf_run (Nat.le_of_ble_eq_true rfl)).trans ?_
  show zrn X 12 m_X_waysToFace 0 [some (.ref a), some (.ref 14), some (.int 7), some (.int x3), some (.int x4), some (.int x5), none, none, none, none] [] h = _
  refine (rn_ld d_X_waysToFace_0 rfl rfl rfl rfl).trans ?_
  refine (rn_push d_X_waysToFace_1 zcs_iconst_1).trans ?_
  refine ((rn_ic_lt d_X_waysToFace_2 (t := 11) (by decide)).trans (if_neg (by decide))).trans ?_
  refine (rn_ld d_X_waysToFace_5 rfl rfl rfl rfl).trans ?_
  refine (rn_ld d_X_waysToFace_6 rfl rfl rfl rfl).trans ?_
  refine (rn_len d_X_waysToFace_7 zc_14 (by decide)).trans ?_
  refine ((rn_ic_le d_X_waysToFace_8 (t := 27) (by decide)).trans (if_pos (by decide))).trans ?_
  refine (rn_ld d_X_waysToFace_27 rfl rfl rfl rfl).trans ?_
  refine (rn_ld d_X_waysToFace_28 rfl rfl rfl rfl).trans ?_
  refine (rn_push d_X_waysToFace_29 zcs_iconst_1).trans ?_
  refine (rn_a2 d_X_waysToFace_30 rfl).trans ?_
  refine (rn_aalc (q := 110) d_X_waysToFace_31 zc_14 (by decide) (by decide +kernel)).trans ?_
  refine (rn_st d_X_waysToFace_32 rfl rfl rfl (by decide) rfl (Nat.le_of_ble_eq_true rfl) (ls' := [some (.ref a), some (.ref 14), some (.int 7), some (.int x3), some (.int x4), some (.int x5), some (.ref 111), none, none, none]) rfl).trans ?_
  refine (rn_ld d_X_waysToFace_34 rfl rfl rfl rfl).trans ?_
  refine (rn_nn d_X_waysToFace_36 (t := 41) (by decide)).trans ?_
  refine (rn_ld d_X_waysToFace_41 rfl rfl rfl rfl).trans ?_
  refine (rn_ld d_X_waysToFace_43 rfl rfl rfl rfl).trans ?_
  refine (rn_vV d_X_waysToFace_44 (zinv_v l_3_69 (by decide) (Nat.le_of_ble_eq_true rfl) rfl rfl zc_111 (Nat.le_of_ble_eq_true rfl)) (Nat.le_of_ble_eq_true rfl) rfl).trans (zbV_congr fun h1 => ?_)
  refine (rn_ld d_X_waysToFace_47 rfl rfl rfl rfl).trans ?_
  refine (rn_push d_X_waysToFace_49 zcs_bipush_m9).trans ?_
  refine (rn_vV d_X_waysToFace_51 (zinv_v l_3_171 (by decide) (Nat.le_of_ble_eq_true rfl) rfl rfl zc_111 (Nat.le_of_ble_eq_true rfl)) (Nat.le_of_ble_eq_true rfl) rfl).trans (zbV_congr fun h2 => ?_)
  refine (rn_ld d_X_waysToFace_54 rfl rfl rfl rfl).trans ?_
  refine (rn_gi d_X_waysToFace_56 f_3_174 zc_111).trans ?_
  refine (rn_ld d_X_waysToFace_59 rfl rfl rfl rfl).trans ?_
  refine (rn_sI d_X_waysToFace_60 nb_3_177 (zinv_s l_3_177 (by decide) (Nat.le_of_ble_eq_true rfl) rfl rfl (Nat.le_of_ble_eq_true rfl)) (Nat.le_of_ble_eq_true rfl) (Or.inl rfl)).trans (zbI_congr fun v4 h3 => ?_)
  refine (rn_a2 d_X_waysToFace_63 rfl).trans ?_
  refine Eq.trans (b := zrn X 12 m_X_waysToFace 72 [some (.ref a), some (.ref 14), some (.int 7), some (.int x3), some (.int x4), some (.int x5), some (.ref 111), none, none, none] [.int (if ((h2.1 111 8) &&& v4) = 0 then (0 : Int32) else 1)] h3) ?_ ?_
  · refine (rn_if_eq d_X_waysToFace_64 (t := 71) (by decide)).trans ?_
    by_cases q5 : ((h2.1 111 8) &&& v4) = 0
    · simp only [if_pos q5]
      refine (rn_push d_X_waysToFace_71 zcs_iconst_0).trans ?_
      all_goals rfl
    · simp only [if_neg q5]
      refine (rn_push d_X_waysToFace_67 zcs_iconst_1).trans ?_
      refine (rn_goto d_X_waysToFace_68 (t := 72) (by decide)).trans ?_
      all_goals rfl
  refine (rn_st d_X_waysToFace_72 rfl rfl rfl (by decide) rfl (Nat.le_of_ble_eq_true rfl) (ls' := [some (.ref a), some (.ref 14), some (.int 7), some (.int x3), some (.int x4), some (.int x5), some (.ref 111), some (.int (if ((h2.1 111 8) &&& v4) = 0 then (0 : Int32) else 1)), none, none]) rfl).trans ?_
  refine (rn_ld d_X_waysToFace_74 rfl rfl rfl rfl).trans ?_
  refine (rn_ld d_X_waysToFace_76 rfl rfl rfl rfl).trans ?_
  refine (rn_ld d_X_waysToFace_77 rfl rfl rfl rfl).trans ?_
  refine (rn_push d_X_waysToFace_78 zcs_iconst_1).trans ?_
  refine (rn_a2 d_X_waysToFace_79 rfl).trans ?_
  refine (rn_ld d_X_waysToFace_80 rfl rfl rfl rfl).trans ?_
  refine (rn_ld d_X_waysToFace_81 rfl rfl rfl rfl).trans ?_
  refine (rn_ld d_X_waysToFace_83 rfl rfl rfl rfl).trans ?_
  refine (rn_sL d_X_waysToFace_85 nb_3_225 (zinv_s l_3_225 (by decide) (Nat.le_of_ble_eq_true rfl) rfl rfl (Nat.le_of_ble_eq_true rfl)) (zrk_wn (n := 7 - 1) (by decide)) rfl).trans (zbL_congr fun v7 h6 => ?_)
  refine (rn_st2 d_X_waysToFace_88 rfl rfl rfl (Nat.le_of_ble_eq_true rfl) (ls' := [some (.ref a), some (.ref 14), some (.int 7), some (.int x3), some (.int x4), some (.int x5), some (.ref 111), some (.int (if ((h2.1 111 8) &&& v4) = 0 then (0 : Int32) else 1)), some (.long v7), none]) rfl).trans ?_
  refine (rn_ld d_X_waysToFace_90 rfl rfl rfl rfl).trans ?_
  refine (rn_if_ne d_X_waysToFace_92 (t := 102) (by decide)).trans (zif ?_ ?_)
  · refine (rn_ld d_X_waysToFace_95 rfl rfl rfl rfl).trans ?_
    refine (rn_i2l d_X_waysToFace_97).trans ?_
    refine (rn_ld d_X_waysToFace_98 rfl rfl rfl rfl).trans ?_
    refine (rn_al d_X_waysToFace_100 rfl).trans ?_
    exact rn_rl d_X_waysToFace_101 rfl
  · refine (rn_ld d_X_waysToFace_102 rfl rfl rfl rfl).trans ?_
    refine (rn_ld d_X_waysToFace_104 rfl rfl rfl rfl).trans ?_
    refine (rn_vV d_X_waysToFace_105 (zinv_v l_3_69 (by decide) (Nat.le_of_ble_eq_true rfl) rfl rfl zc_111 (Nat.le_of_ble_eq_true rfl)) (Nat.le_of_ble_eq_true rfl) rfl).trans (zbV_congr fun h8 => ?_)
    refine (rn_ld d_X_waysToFace_108 rfl rfl rfl rfl).trans ?_
    refine (rn_ld d_X_waysToFace_110 rfl rfl rfl rfl).trans ?_
    refine (rn_vV d_X_waysToFace_111 (zinv_v l_3_171 (by decide) (Nat.le_of_ble_eq_true rfl) rfl rfl zc_111 (Nat.le_of_ble_eq_true rfl)) (Nat.le_of_ble_eq_true rfl) rfl).trans (zbV_congr fun h9 => ?_)
    refine (rn_ld d_X_waysToFace_114 rfl rfl rfl rfl).trans ?_
    refine (rn_push d_X_waysToFace_116 zcs_iconst_1).trans ?_
    refine (rn_a2 d_X_waysToFace_117 rfl).trans ?_
    refine (rn_i2l d_X_waysToFace_118).trans ?_
    refine (rn_ld d_X_waysToFace_119 rfl rfl rfl rfl).trans ?_
    refine (rn_al d_X_waysToFace_121 rfl).trans ?_
    refine (rn_ld d_X_waysToFace_122 rfl rfl rfl rfl).trans ?_
    refine (rn_ld d_X_waysToFace_124 rfl rfl rfl rfl).trans ?_
    refine (rn_ld d_X_waysToFace_125 rfl rfl rfl rfl).trans ?_
    refine (rn_push d_X_waysToFace_126 zcs_iconst_1).trans ?_
    refine (rn_a2 d_X_waysToFace_127 rfl).trans ?_
    refine (rn_ld d_X_waysToFace_128 rfl rfl rfl rfl).trans ?_
    refine (rn_ld d_X_waysToFace_129 rfl rfl rfl rfl).trans ?_
    refine (rn_ld d_X_waysToFace_131 rfl rfl rfl rfl).trans ?_
    refine (rn_sL d_X_waysToFace_133 nb_3_225 (zinv_s l_3_225 (by decide) (Nat.le_of_ble_eq_true rfl) rfl rfl (Nat.le_of_ble_eq_true rfl)) (zrk_wn (n := 7 - 1) (by decide)) rfl).trans (zbL_congr fun v11 h10 => ?_)
    refine (rn_al d_X_waysToFace_136 rfl).trans ?_
    exact rn_rl d_X_waysToFace_137 rfl
theorem e_X_ways_8 {X : zX} {a : Nat} {x3 x4 x5 : Int32} {h : zH} (H : isH a) : zcf X m_X_waysToFace [.ref a, .ref 14, .int 8, .int x3, .int x4, .int x5] h = (zbV (zcf X m_H_become [.ref 117, .ref a] h) fun h1 => (zbV (zcf X m_H_nightWithout [.ref 117, .int (-9)] h1) fun h2 => (zbI (zcf X m_X_bitOf [.int x3] h2) fun v4 h3 => (zbL (zcf X m_X_waysToFace [.ref 117, .ref 14, .int 7, .int x3, .int x4, .int x5] h3) fun v7 h6 => (if (if ((h2.1 117 8) &&& v4) = 0 then (0 : Int32) else 1) = 0 then (some (some (.long ((Int32.toInt64 x5) * v7)), h6)) else (zbV (zcf X m_H_become [.ref 117, .ref a] h6) fun h8 => (zbV (zcf X m_H_nightWithout [.ref 117, .int x3] h8) fun h9 => (zbL (zcf X m_X_waysToFace [.ref 117, .ref 14, .int 7, .int x3, .int x4, .int x5] h9) fun v11 h10 => (some (some (.long (((Int32.toInt64 (x5 - 1)) * v7) + v11)), h10)))))))))) := by
  refine (zcf_run (Nat.le_of_ble_eq_true rfl)).trans ?_
  show zrn X 13 m_X_waysToFace 0 [some (.ref a), some (.ref 14), some (.int 8), some (.int x3), some (.int x4), some (.int x5), none, none, none, none] [] h = _
  refine (rn_ld d_X_waysToFace_0 rfl rfl rfl rfl).trans ?_
  refine (rn_push d_X_waysToFace_1 zcs_iconst_1).trans ?_
  refine ((rn_ic_lt d_X_waysToFace_2 (t := 11) (by decide)).trans (if_neg (by decide))).trans ?_
  refine (rn_ld d_X_waysToFace_5 rfl rfl rfl rfl).trans ?_
  refine (rn_ld d_X_waysToFace_6 rfl rfl rfl rfl).trans ?_
  refine (rn_len d_X_waysToFace_7 zc_14 (by decide)).trans ?_
  refine ((rn_ic_le d_X_waysToFace_8 (t := 27) (by decide)).trans (if_pos (by decide))).trans ?_
  refine (rn_ld d_X_waysToFace_27 rfl rfl rfl rfl).trans ?_
  refine (rn_ld d_X_waysToFace_28 rfl rfl rfl rfl).trans ?_
  refine (rn_push d_X_waysToFace_29 zcs_iconst_1).trans ?_
  refine (rn_a2 d_X_waysToFace_30 rfl).trans ?_
  refine (rn_aalc (q := 116) d_X_waysToFace_31 zc_14 (by decide) (by decide +kernel)).trans ?_
  refine (rn_st d_X_waysToFace_32 rfl rfl rfl (by decide) rfl (Nat.le_of_ble_eq_true rfl) (ls' := [some (.ref a), some (.ref 14), some (.int 8), some (.int x3), some (.int x4), some (.int x5), some (.ref 117), none, none, none]) rfl).trans ?_
  refine (rn_ld d_X_waysToFace_34 rfl rfl rfl rfl).trans ?_
  refine (rn_nn d_X_waysToFace_36 (t := 41) (by decide)).trans ?_
  refine (rn_ld d_X_waysToFace_41 rfl rfl rfl rfl).trans ?_
  refine (rn_ld d_X_waysToFace_43 rfl rfl rfl rfl).trans ?_
  refine (rn_vV d_X_waysToFace_44 (zinv_v l_3_69 (by decide) (Nat.le_of_ble_eq_true rfl) rfl rfl zc_117 (Nat.le_of_ble_eq_true rfl)) (Nat.le_of_ble_eq_true rfl) rfl).trans (zbV_congr fun h1 => ?_)
  refine (rn_ld d_X_waysToFace_47 rfl rfl rfl rfl).trans ?_
  refine (rn_push d_X_waysToFace_49 zcs_bipush_m9).trans ?_
  refine (rn_vV d_X_waysToFace_51 (zinv_v l_3_171 (by decide) (Nat.le_of_ble_eq_true rfl) rfl rfl zc_117 (Nat.le_of_ble_eq_true rfl)) (Nat.le_of_ble_eq_true rfl) rfl).trans (zbV_congr fun h2 => ?_)
  refine (rn_ld d_X_waysToFace_54 rfl rfl rfl rfl).trans ?_
  refine (rn_gi d_X_waysToFace_56 f_3_174 zc_117).trans ?_
  refine (rn_ld d_X_waysToFace_59 rfl rfl rfl rfl).trans ?_
  refine (rn_sI d_X_waysToFace_60 nb_3_177 (zinv_s l_3_177 (by decide) (Nat.le_of_ble_eq_true rfl) rfl rfl (Nat.le_of_ble_eq_true rfl)) (Nat.le_of_ble_eq_true rfl) (Or.inl rfl)).trans (zbI_congr fun v4 h3 => ?_)
  refine (rn_a2 d_X_waysToFace_63 rfl).trans ?_
  refine Eq.trans (b := zrn X 13 m_X_waysToFace 72 [some (.ref a), some (.ref 14), some (.int 8), some (.int x3), some (.int x4), some (.int x5), some (.ref 117), none, none, none] [.int (if ((h2.1 117 8) &&& v4) = 0 then (0 : Int32) else 1)] h3) ?_ ?_
  · refine (rn_if_eq d_X_waysToFace_64 (t := 71) (by decide)).trans ?_
    by_cases q5 : ((h2.1 117 8) &&& v4) = 0
    · simp only [if_pos q5]
      refine (rn_push d_X_waysToFace_71 zcs_iconst_0).trans ?_
      all_goals rfl
    · simp only [if_neg q5]
      refine (rn_push d_X_waysToFace_67 zcs_iconst_1).trans ?_
      refine (rn_goto d_X_waysToFace_68 (t := 72) (by decide)).trans ?_
      all_goals rfl
  refine (rn_st d_X_waysToFace_72 rfl rfl rfl (by decide) rfl (Nat.le_of_ble_eq_true rfl) (ls' := [some (.ref a), some (.ref 14), some (.int 8), some (.int x3), some (.int x4), some (.int x5), some (.ref 117), some (.int (if ((h2.1 117 8) &&& v4) = 0 then (0 : Int32) else 1)), none, none]) rfl).trans ?_
  refine (rn_ld d_X_waysToFace_74 rfl rfl rfl rfl).trans ?_
  refine (rn_ld d_X_waysToFace_76 rfl rfl rfl rfl).trans ?_
  refine (rn_ld d_X_waysToFace_77 rfl rfl rfl rfl).trans ?_
  refine (rn_push d_X_waysToFace_78 zcs_iconst_1).trans ?_
  refine (rn_a2 d_X_waysToFace_79 rfl).trans ?_
  refine (rn_ld d_X_waysToFace_80 rfl rfl rfl rfl).trans ?_
  refine (rn_ld d_X_waysToFace_81 rfl rfl rfl rfl).trans ?_
  refine (rn_ld d_X_waysToFace_83 rfl rfl rfl rfl).trans ?_
  refine (rn_sL d_X_waysToFace_85 nb_3_225 (zinv_s l_3_225 (by decide) (Nat.le_of_ble_eq_true rfl) rfl rfl (Nat.le_of_ble_eq_true rfl)) (zrk_wn (n := 8 - 1) (by decide)) rfl).trans (zbL_congr fun v7 h6 => ?_)
  refine (rn_st2 d_X_waysToFace_88 rfl rfl rfl (Nat.le_of_ble_eq_true rfl) (ls' := [some (.ref a), some (.ref 14), some (.int 8), some (.int x3), some (.int x4), some (.int x5), some (.ref 117), some (.int (if ((h2.1 117 8) &&& v4) = 0 then (0 : Int32) else 1)), some (.long v7), none]) rfl).trans ?_
  refine (rn_ld d_X_waysToFace_90 rfl rfl rfl rfl).trans ?_
  refine (rn_if_ne d_X_waysToFace_92 (t := 102) (by decide)).trans (zif ?_ ?_)
  · refine (rn_ld d_X_waysToFace_95 rfl rfl rfl rfl).trans ?_
    refine (rn_i2l d_X_waysToFace_97).trans ?_
    refine (rn_ld d_X_waysToFace_98 rfl rfl rfl rfl).trans ?_
    refine (rn_al d_X_waysToFace_100 rfl).trans ?_
    exact rn_rl d_X_waysToFace_101 rfl
  · refine (rn_ld d_X_waysToFace_102 rfl rfl rfl rfl).trans ?_
    refine (rn_ld d_X_waysToFace_104 rfl rfl rfl rfl).trans ?_
    refine (rn_vV d_X_waysToFace_105 (zinv_v l_3_69 (by decide) (Nat.le_of_ble_eq_true rfl) rfl rfl zc_117 (Nat.le_of_ble_eq_true rfl)) (Nat.le_of_ble_eq_true rfl) rfl).trans (zbV_congr fun h8 => ?_)
    refine (rn_ld d_X_waysToFace_108 rfl rfl rfl rfl).trans ?_
    refine (rn_ld d_X_waysToFace_110 rfl rfl rfl rfl).trans ?_
    refine (rn_vV d_X_waysToFace_111 (zinv_v l_3_171 (by decide) (Nat.le_of_ble_eq_true rfl) rfl rfl zc_117 (Nat.le_of_ble_eq_true rfl)) (Nat.le_of_ble_eq_true rfl) rfl).trans (zbV_congr fun h9 => ?_)
    refine (rn_ld d_X_waysToFace_114 rfl rfl rfl rfl).trans ?_
    refine (rn_push d_X_waysToFace_116 zcs_iconst_1).trans ?_
    refine (rn_a2 d_X_waysToFace_117 rfl).trans ?_
    refine (rn_i2l d_X_waysToFace_118).trans ?_
    refine (rn_ld d_X_waysToFace_119 rfl rfl rfl rfl).trans ?_
    refine (rn_al d_X_waysToFace_121 rfl).trans ?_
    refine (rn_ld d_X_waysToFace_122 rfl rfl rfl rfl).trans ?_
    refine (rn_ld d_X_waysToFace_124 rfl rfl rfl rfl).trans ?_
    refine (rn_ld d_X_waysToFace_125 rfl rfl rfl rfl).trans ?_
    refine (rn_push d_X_waysToFace_126 zcs_iconst_1).trans ?_
    refine (rn_a2 d_X_waysToFace_127 rfl).trans ?_
    refine (rn_ld d_X_waysToFace_128 rfl rfl rfl rfl).trans ?_
    refine (rn_ld d_X_waysToFace_129 rfl rfl rfl rfl).trans ?_
    refine (rn_ld d_X_waysToFace_131 rfl rfl rfl rfl).trans ?_
    refine (rn_sL d_X_waysToFace_133 nb_3_225 (zinv_s l_3_225 (by decide) (Nat.le_of_ble_eq_true rfl) rfl rfl (Nat.le_of_ble_eq_true rfl)) (zrk_wn (n := 8 - 1) (by decide)) rfl).trans (zbL_congr fun v11 h10 => ?_)
    refine (rn_al d_X_waysToFace_136 rfl).trans ?_
    exact rn_rl d_X_waysToFace_137 rfl
theorem e_X_ways_s {X : zX} {a n : Nat} {x3 x4 x5 : Int32} {h : zH} (H : isH a) (hn : n < 8) : zcf X m_X_waysToFace [.ref a, .ref 14, .int (nI (n + 1)), .int x3, .int x4, .int x5] h = (zbV (zcf X m_H_become [.ref (75 + 6 * n), .ref a] h) fun h1 => (zbV (zcf X m_H_nightWithout [.ref (75 + 6 * n), .int (-9)] h1) fun h2 => (zbI (zcf X m_X_bitOf [.int x3] h2) fun v4 h3 => (zbL (zcf X m_X_waysToFace [.ref (75 + 6 * n), .ref 14, .int (nI n), .int x3, .int x4, .int x5] h3) fun v7 h6 => (if (if ((h2.1 (75 + 6 * n) 8) &&& v4) = 0 then (0 : Int32) else 1) = 0 then (some (some (.long ((Int32.toInt64 x5) * v7)), h6)) else (zbV (zcf X m_H_become [.ref (75 + 6 * n), .ref a] h6) fun h8 => (zbV (zcf X m_H_nightWithout [.ref (75 + 6 * n), .int x3] h8) fun h9 => (zbL (zcf X m_X_waysToFace [.ref (75 + 6 * n), .ref 14, .int (nI n), .int x3, .int x4, .int x5] h9) fun v11 h10 => (some (some (.long (((Int32.toInt64 (x5 - 1)) * v7) + v11)), h10)))))))))) := by
  have : n = 0 ∨ n = 1 ∨ n = 2 ∨ n = 3 ∨ n = 4 ∨ n = 5 ∨ n = 6 ∨ n = 7 := by omega
  rcases this with rfl | rfl | rfl | rfl | rfl | rfl | rfl | rfl
  · exact e_X_ways_1 H
  · exact e_X_ways_2 H
  · exact e_X_ways_3 H
  · exact e_X_ways_4 H
  · exact e_X_ways_5 H
  · exact e_X_ways_6 H
  · exact e_X_ways_7 H
  · exact e_X_ways_8 H
theorem hH_d {n : Nat} (hn : n < 8) : isH (75 + 6 * n) := by
  have : n = 0 ∨ n = 1 ∨ n = 2 ∨ n = 3 ∨ n = 4 ∨ n = 5 ∨ n = 6 ∨ n = 7 := by omega
  rcases this with rfl | rfl | rfl | rfl | rfl | rfl | rfl | rfl
  · exact hH_75
  · exact hH_81
  · exact hH_87
  · exact hH_93
  · exact hH_99
  · exact hH_105
  · exact hH_111
  · exact hH_117
