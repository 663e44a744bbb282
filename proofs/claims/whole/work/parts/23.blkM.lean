theorem e_M_feed {X : zX} {x1 : Int32} {h : zH} : zcf X m_M_feed [.ref 123, .int x1] h = (if 0 ≤ x1 then (if 255 < x1 then (zbI (zcf X m_M_refuse [.ref 123, .int (-6)] ((zup h.1 123 7 0), h.2)) fun v2 h1 => (some (some (.int v2), h1))) else (if ((zup h.1 123 7 0) 123 12) = 96 then (zbI (zcf X m_M_refuse [.ref 123, .int (-6)] ((zup h.1 123 7 0), h.2)) fun v4 h3 => (some (some (.int v4), h3))) else (if zin ((zup h.1 123 7 0) 123 12) 96 = true then (some (some (.int ((zup (zup (zup h.1 123 7 0) 130 (Int32.toNatClampNeg ((zup h.1 123 7 0) 123 12)) x1) 123 12 (((zup (zup h.1 123 7 0) 130 (Int32.toNatClampNeg ((zup h.1 123 7 0) 123 12)) x1) 123 12) + 1)) 123 12)), ((zup (zup (zup h.1 123 7 0) 130 (Int32.toNatClampNeg ((zup h.1 123 7 0) 123 12)) x1) 123 12 (((zup (zup h.1 123 7 0) 130 (Int32.toNatClampNeg ((zup h.1 123 7 0) 123 12)) x1) 123 12) + 1)), h.2))) else none))) else (zbI (zcf X m_M_refuse [.ref 123, .int (-4)] ((zup h.1 123 7 0), h.2)) fun v6 h5 => (some (some (.int v6), h5)))) := by
  refine (zcf_run (Nat.le_of_ble_eq_true rfl)).trans ?_
  show zrn X 1 m_M_feed 0 [some (.ref 123), some (.int x1)] [] h = _
  refine (rn_ld d_M_feed_0 rfl rfl rfl rfl).trans ?_
  refine (rn_push d_M_feed_1 zcs_iconst_0).trans ?_
  refine (rn_pi d_M_feed_2 f_4_61 zc_123).trans ?_
  refine (rn_ld d_M_feed_5 rfl rfl rfl rfl).trans ?_
  refine (rn_if_ge d_M_feed_6 (t := 16) (by decide)).trans (zif ?_ ?_)
  · refine (rn_ld d_M_feed_16 rfl rfl rfl rfl).trans ?_
    refine (rn_push d_M_feed_17 zcs_sipush_255).trans ?_
    refine (rn_ic_gt d_M_feed_20 (t := 32) (by decide)).trans (zif ?_ ?_)
    · refine (rn_ld d_M_feed_32 rfl rfl rfl rfl).trans ?_
      refine (rn_push d_M_feed_33 zcs_bipush_m6).trans ?_
      refine (rn_vI d_M_feed_35 (zinv_v l_4_123 (by decide) (Nat.le_of_ble_eq_true rfl) rfl rfl zc_123 (Nat.le_of_ble_eq_true rfl)) (Nat.le_of_ble_eq_true rfl) (Or.inl rfl)).trans (zbI_congr fun v2 h1 => ?_)
      exact rn_ri d_M_feed_38 rfl
    · refine (rn_ld d_M_feed_23 rfl rfl rfl rfl).trans ?_
      refine (rn_gi d_M_feed_24 f_4_126 zc_123).trans ?_
      refine (rn_push d_M_feed_27 zcs_bipush_96).trans ?_
      refine (rn_ic_ne d_M_feed_29 (t := 39) (by decide)).trans (zif ?_ ?_)
      · refine (rn_ld d_M_feed_32 rfl rfl rfl rfl).trans ?_
        refine (rn_push d_M_feed_33 zcs_bipush_m6).trans ?_
        refine (rn_vI d_M_feed_35 (zinv_v l_4_123 (by decide) (Nat.le_of_ble_eq_true rfl) rfl rfl zc_123 (Nat.le_of_ble_eq_true rfl)) (Nat.le_of_ble_eq_true rfl) (Or.inl rfl)).trans (zbI_congr fun v4 h3 => ?_)
        exact rn_ri d_M_feed_38 rfl
      · refine (rn_ld d_M_feed_39 rfl rfl rfl rfl).trans ?_
        refine (rn_gr d_M_feed_40 f_4_28 zc_123 zr_123_11).trans ?_
        refine (rn_ld d_M_feed_43 rfl rfl rfl rfl).trans ?_
        refine (rn_gi d_M_feed_44 f_4_126 zc_123).trans ?_
        refine (rn_ld d_M_feed_47 rfl rfl rfl rfl).trans ?_
        refine (rn_ias d_M_feed_48 zc_130).trans (zif ?_ rfl)
        refine (rn_ld d_M_feed_49 rfl rfl rfl rfl).trans ?_
        refine (rn_dup d_M_feed_50 rfl).trans ?_
        refine (rn_gi d_M_feed_51 f_4_126 zc_123).trans ?_
        refine (rn_push d_M_feed_54 zcs_iconst_1).trans ?_
        refine (rn_a2 d_M_feed_55 rfl).trans ?_
        refine (rn_pi d_M_feed_56 f_4_126 zc_123).trans ?_
        refine (rn_ld d_M_feed_59 rfl rfl rfl rfl).trans ?_
        refine (rn_gi d_M_feed_60 f_4_126 zc_123).trans ?_
        exact rn_ri d_M_feed_63 rfl
  · refine (rn_ld d_M_feed_9 rfl rfl rfl rfl).trans ?_
    refine (rn_push d_M_feed_10 zcs_bipush_m4).trans ?_
    refine (rn_vI d_M_feed_12 (zinv_v l_4_123 (by decide) (Nat.le_of_ble_eq_true rfl) rfl rfl zc_123 (Nat.le_of_ble_eq_true rfl)) (Nat.le_of_ble_eq_true rfl) (Or.inl rfl)).trans (zbI_congr fun v6 h5 => ?_)
    exact rn_ri d_M_feed_15 rfl
theorem e_M_refuse {X : zX} {x1 : Int32} {h : zH} : zcf X m_M_refuse [.ref 123, .int x1] h = (if zin (-x1) 7 = true then (if zin (-x1) 7 = true then (some (some (.int x1), ((zup h.1 129 (Int32.toNatClampNeg (-x1)) ((h.1 129 (Int32.toNatClampNeg (-x1))) + 1)), h.2))) else none) else none) := by
  refine (zcf_run (Nat.le_of_ble_eq_true rfl)).trans ?_
  show zrn X 0 m_M_refuse 0 [some (.ref 123), some (.int x1)] [] h = _
  refine (rn_ld d_M_refuse_0 rfl rfl rfl rfl).trans ?_
  refine (rn_gr d_M_refuse_1 f_4_25 zc_123 zr_123_8).trans ?_
  refine (rn_ld d_M_refuse_4 rfl rfl rfl rfl).trans ?_
  refine (rn_neg d_M_refuse_5).trans ?_
  refine (rn_dup2 d_M_refuse_6 rfl rfl).trans ?_
  refine (rn_ial d_M_refuse_7 (by decide) zc_129).trans (zif ?_ rfl)
  refine (rn_push d_M_refuse_8 zcs_iconst_1).trans ?_
  refine (rn_a2 d_M_refuse_9 rfl).trans ?_
  refine (rn_ias d_M_refuse_10 zc_129).trans (zif ?_ rfl)
  refine (rn_ld d_M_refuse_11 rfl rfl rfl rfl).trans ?_
  exact rn_ri d_M_refuse_12 rfl
theorem b_M_hill_20 {X : zX} {h : zH} : zrn X 8 m_M_hill 20 [some (.ref 123), none] [] h = (if (h.1 123 14) = 0 then (if (h.1 123 15) = 0 then (zbV (zcf X m_M_readStatement [.ref 123] h) fun h1 => zrn X 8 m_M_hill 20 [some (.ref 123), none] [] h1) else (if (h.1 123 12) ≤ (h.1 123 13) then (if ((zup h.1 123 12 0) 123 14) = 0 then (zbV (zcf X m_M_think [.ref 123] ((zup h.1 123 12 0), h.2)) fun h2 => zrn X 8 m_M_hill 79 [some (.ref 123), some (.int 0)] [] h2) else (some (some (.int ((-1000) - ((zup h.1 123 12 0) 123 13))), ((zup h.1 123 12 0), h.2)))) else (zbV (zcf X m_M_readStatement [.ref 123] h) fun h3 => zrn X 8 m_M_hill 20 [some (.ref 123), none] [] h3))) else (if ((zup h.1 123 12 0) 123 14) = 0 then (zbV (zcf X m_M_think [.ref 123] ((zup h.1 123 12 0), h.2)) fun h4 => zrn X 8 m_M_hill 79 [some (.ref 123), some (.int 0)] [] h4) else (some (some (.int ((-1000) - ((zup h.1 123 12 0) 123 13))), ((zup h.1 123 12 0), h.2))))) := by
  refine (rn_ld d_M_hill_20 rfl rfl rfl rfl).trans ?_
  refine (rn_gz d_M_hill_21 f_4_132 zc_123).trans ?_
  refine (rn_if_ne d_M_hill_24 (t := 52) (by decide)).trans (zif ?_ ?_)
  · refine (rn_ld d_M_hill_27 rfl rfl rfl rfl).trans ?_
    refine (rn_gi d_M_hill_28 f_4_147 zc_123).trans ?_
    refine (rn_if_eq d_M_hill_31 (t := 45) (by decide)).trans (zif ?_ ?_)
    · refine (rn_ld d_M_hill_45 rfl rfl rfl rfl).trans ?_
      refine (rn_vV d_M_hill_46 (zinv_v l_4_165 (by decide) (Nat.le_of_ble_eq_true rfl) rfl rfl zc_123 (Nat.le_of_ble_eq_true rfl)) (Nat.le_of_ble_eq_true rfl) rfl).trans (zbV_congr fun h1 => ?_)
      refine (rn_goto d_M_hill_49 (t := 20) (by decide)).trans ?_
      rfl
    · refine (rn_ld d_M_hill_34 rfl rfl rfl rfl).trans ?_
      refine (rn_gi d_M_hill_35 f_4_129 zc_123).trans ?_
      refine (rn_ld d_M_hill_38 rfl rfl rfl rfl).trans ?_
      refine (rn_gi d_M_hill_39 f_4_126 zc_123).trans ?_
      refine (rn_ic_ge d_M_hill_42 (t := 52) (by decide)).trans (zif ?_ ?_)
      · refine (rn_ld d_M_hill_52 rfl rfl rfl rfl).trans ?_
        refine (rn_push d_M_hill_53 zcs_iconst_0).trans ?_
        refine (rn_pi d_M_hill_54 f_4_126 zc_123).trans ?_
        refine (rn_ld d_M_hill_57 rfl rfl rfl rfl).trans ?_
        refine (rn_gz d_M_hill_58 f_4_132 zc_123).trans ?_
        refine (rn_if_eq d_M_hill_61 (t := 73) (by decide)).trans (zif ?_ ?_)
        · refine (rn_ld d_M_hill_73 rfl rfl rfl rfl).trans ?_
          refine (rn_vV d_M_hill_74 (zinv_v l_4_168 (by decide) (Nat.le_of_ble_eq_true rfl) rfl rfl zc_123 (Nat.le_of_ble_eq_true rfl)) (Nat.le_of_ble_eq_true rfl) rfl).trans (zbV_congr fun h2 => ?_)
          refine (rn_push d_M_hill_77 zcs_iconst_0).trans ?_
          refine (rn_st d_M_hill_78 rfl rfl rfl (by decide) rfl (Nat.le_of_ble_eq_true rfl) (ls' := [some (.ref 123), some (.int 0)]) rfl).trans ?_
          rfl
        · refine (rn_push d_M_hill_64 zcs_sipush_m1000).trans ?_
          refine (rn_ld d_M_hill_67 rfl rfl rfl rfl).trans ?_
          refine (rn_gi d_M_hill_68 f_4_129 zc_123).trans ?_
          refine (rn_a2 d_M_hill_71 rfl).trans ?_
          exact rn_ri d_M_hill_72 rfl
      · refine (rn_ld d_M_hill_45 rfl rfl rfl rfl).trans ?_
        refine (rn_vV d_M_hill_46 (zinv_v l_4_165 (by decide) (Nat.le_of_ble_eq_true rfl) rfl rfl zc_123 (Nat.le_of_ble_eq_true rfl)) (Nat.le_of_ble_eq_true rfl) rfl).trans (zbV_congr fun h3 => ?_)
        refine (rn_goto d_M_hill_49 (t := 20) (by decide)).trans ?_
        rfl
  · refine (rn_ld d_M_hill_52 rfl rfl rfl rfl).trans ?_
    refine (rn_push d_M_hill_53 zcs_iconst_0).trans ?_
    refine (rn_pi d_M_hill_54 f_4_126 zc_123).trans ?_
    refine (rn_ld d_M_hill_57 rfl rfl rfl rfl).trans ?_
    refine (rn_gz d_M_hill_58 f_4_132 zc_123).trans ?_
    refine (rn_if_eq d_M_hill_61 (t := 73) (by decide)).trans (zif ?_ ?_)
    · refine (rn_ld d_M_hill_73 rfl rfl rfl rfl).trans ?_
      refine (rn_vV d_M_hill_74 (zinv_v l_4_168 (by decide) (Nat.le_of_ble_eq_true rfl) rfl rfl zc_123 (Nat.le_of_ble_eq_true rfl)) (Nat.le_of_ble_eq_true rfl) rfl).trans (zbV_congr fun h4 => ?_)
      refine (rn_push d_M_hill_77 zcs_iconst_0).trans ?_
      refine (rn_st d_M_hill_78 rfl rfl rfl (by decide) rfl (Nat.le_of_ble_eq_true rfl) (ls' := [some (.ref 123), some (.int 0)]) rfl).trans ?_
      rfl
    · refine (rn_push d_M_hill_64 zcs_sipush_m1000).trans ?_
      refine (rn_ld d_M_hill_67 rfl rfl rfl rfl).trans ?_
      refine (rn_gi d_M_hill_68 f_4_129 zc_123).trans ?_
      refine (rn_a2 d_M_hill_71 rfl).trans ?_
      exact rn_ri d_M_hill_72 rfl
theorem b_M_hill_79 {X : zX} {x1 : Int32} {h : zH} : zrn X 8 m_M_hill 79 [some (.ref 123), some (.int x1)] [] h = (if (h.1 123 15) ≤ x1 then (some (some (.int ((zup h.1 123 27 0) 123 15)), ((zup h.1 123 27 0), h.2))) else (zbI (zcf X m_M_comesTold [.ref 123, .int x1] h) fun v2 h1 => (if v2 = 0 then (zbV (zcf X m_M_again [.ref 123] h1) fun h3 => (if zin x1 49 = true then (some (some (.int ((-2000) - (h3.1 131 (Int32.toNatClampNeg x1)))), h3)) else none)) else zrn X 8 m_M_hill 79 [some (.ref 123), some (.int (x1 + 1))] [] h1))) := by
  refine (rn_ld d_M_hill_79 rfl rfl rfl rfl).trans ?_
  refine (rn_ld d_M_hill_80 rfl rfl rfl rfl).trans ?_
  refine (rn_gi d_M_hill_81 f_4_147 zc_123).trans ?_
  refine (rn_ic_ge d_M_hill_84 (t := 116) (by decide)).trans (zif ?_ ?_)
  · refine (rn_ld d_M_hill_116 rfl rfl rfl rfl).trans ?_
    refine (rn_push d_M_hill_117 zcs_iconst_0).trans ?_
    refine (rn_pi d_M_hill_118 f_4_177 zc_123).trans ?_
    refine (rn_ld d_M_hill_121 rfl rfl rfl rfl).trans ?_
    refine (rn_gi d_M_hill_122 f_4_147 zc_123).trans ?_
    exact rn_ri d_M_hill_125 rfl
  · refine (rn_ld d_M_hill_87 rfl rfl rfl rfl).trans ?_
    refine (rn_ld d_M_hill_88 rfl rfl rfl rfl).trans ?_
    refine (rn_vI d_M_hill_89 (zinv_v l_4_171 (by decide) (Nat.le_of_ble_eq_true rfl) rfl rfl zc_123 (Nat.le_of_ble_eq_true rfl)) (Nat.le_of_ble_eq_true rfl) (Or.inr rfl)).trans (zbI_congr fun v2 h1 => ?_)
    refine (rn_if_ne d_M_hill_92 (t := 110) (by decide)).trans (zif ?_ ?_)
    · refine (rn_ld d_M_hill_95 rfl rfl rfl rfl).trans ?_
      refine (rn_vV d_M_hill_96 (zinv_v l_4_174 (by decide) (Nat.le_of_ble_eq_true rfl) rfl rfl zc_123 (Nat.le_of_ble_eq_true rfl)) (Nat.le_of_ble_eq_true rfl) rfl).trans (zbV_congr fun h3 => ?_)
      refine (rn_push d_M_hill_99 zcs_sipush_m2000).trans ?_
      refine (rn_ld d_M_hill_102 rfl rfl rfl rfl).trans ?_
      refine (rn_gr d_M_hill_103 f_4_31 zc_123 zr_123_16).trans ?_
      refine (rn_ld d_M_hill_106 rfl rfl rfl rfl).trans ?_
      refine (rn_ial d_M_hill_107 (by decide) zc_131).trans (zif ?_ rfl)
      refine (rn_a2 d_M_hill_108 rfl).trans ?_
      exact rn_ri d_M_hill_109 rfl
    · refine (rn_inc d_M_hill_110 rfl (c := 1) (by decide) (ls' := [some (.ref 123), some (.int (x1 + 1))]) rfl).trans ?_
      refine (rn_goto d_M_hill_113 (t := 79) (by decide)).trans ?_
      rfl
theorem e_M_hill {X : zX} {h : zH} : zcf X m_M_hill [.ref 123] h = zrn X 8 m_M_hill 20 [some (.ref 123), none] [] ((zup (zup (zup (zup h.1 123 7 0) 123 13 0) 123 14 0) 123 15 0), h.2) := by
  refine (zcf_run (Nat.le_of_ble_eq_true rfl)).trans ?_
  show zrn X 8 m_M_hill 0 [some (.ref 123), none] [] h = _
  refine (rn_ld d_M_hill_0 rfl rfl rfl rfl).trans ?_
  refine (rn_push d_M_hill_1 zcs_iconst_0).trans ?_
  refine (rn_pi d_M_hill_2 f_4_61 zc_123).trans ?_
  refine (rn_ld d_M_hill_5 rfl rfl rfl rfl).trans ?_
  refine (rn_push d_M_hill_6 zcs_iconst_0).trans ?_
  refine (rn_pi d_M_hill_7 f_4_129 zc_123).trans ?_
  refine (rn_ld d_M_hill_10 rfl rfl rfl rfl).trans ?_
  refine (rn_push d_M_hill_11 zcs_iconst_0).trans ?_
  refine (rn_pz d_M_hill_12 f_4_132 zc_123 (by decide)).trans ?_
  refine (rn_ld d_M_hill_15 rfl rfl rfl rfl).trans ?_
  refine (rn_push d_M_hill_16 zcs_iconst_0).trans ?_
  refine (rn_pi d_M_hill_17 f_4_147 zc_123).trans ?_
  rfl
theorem e_M_readStatement {X : zX} {h : zH} : zcf X m_M_readStatement [.ref 123] h = (zbI (zcf X m_M_here [.ref 123] h) fun v2 h1 => (if zin (h.1 123 15) 49 = true then (if zin (h.1 123 15) 49 = true then (if ((zup (zup h1.1 131 (Int32.toNatClampNeg (h.1 123 15)) (h1.1 123 13)) 132 (Int32.toNatClampNeg (h.1 123 15)) v2) 123 14) = 0 then (zbI (zcf X m_M_isLetter [.int v2] ((zup (zup h1.1 131 (Int32.toNatClampNeg (h.1 123 15)) (h1.1 123 13)) 132 (Int32.toNatClampNeg (h.1 123 15)) v2), h1.2)) fun v4 h3 => (if ((zup (zup h3.1 123 14 (if v4 = 0 then (1 : Int32) else 0)) 123 13 (((zup h3.1 123 14 (if v4 = 0 then (1 : Int32) else 0)) 123 13) + (if ((zup h3.1 123 14 (if v4 = 0 then (1 : Int32) else 0)) 123 14) = 0 then (1 : Int32) else 0))) 123 14) = 0 then (zbV (zcf X m_M_readNumbers [.ref 123, .int v2, .int (4 * (h.1 123 15))] ((zup (zup h3.1 123 14 (if v4 = 0 then (1 : Int32) else 0)) 123 13 (((zup h3.1 123 14 (if v4 = 0 then (1 : Int32) else 0)) 123 13) + (if ((zup h3.1 123 14 (if v4 = 0 then (1 : Int32) else 0)) 123 14) = 0 then (1 : Int32) else 0))), h3.2)) fun h7 => (if (h7.1 123 14) = 0 then (zbI (zcf X m_M_here [.ref 123] h7) fun v9 h8 => (some (none, ((zup (zup (zup h8.1 123 14 (if v9 = 59 then (0 : Int32) else 1)) 123 13 (((zup h8.1 123 14 (if v9 = 59 then (0 : Int32) else 1)) 123 13) + (if ((zup h8.1 123 14 (if v9 = 59 then (0 : Int32) else 1)) 123 14) = 0 then (1 : Int32) else 0))) 123 15 (((zup (zup h8.1 123 14 (if v9 = 59 then (0 : Int32) else 1)) 123 13 (((zup h8.1 123 14 (if v9 = 59 then (0 : Int32) else 1)) 123 13) + (if ((zup h8.1 123 14 (if v9 = 59 then (0 : Int32) else 1)) 123 14) = 0 then (1 : Int32) else 0))) 123 15) + 1)), h8.2)))) else (some (none, ((zup (zup (zup h7.1 123 14 1) 123 13 (((zup h7.1 123 14 1) 123 13) + (if ((zup h7.1 123 14 1) 123 14) = 0 then (1 : Int32) else 0))) 123 15 (((zup (zup h7.1 123 14 1) 123 13 (((zup h7.1 123 14 1) 123 13) + (if ((zup h7.1 123 14 1) 123 14) = 0 then (1 : Int32) else 0))) 123 15) + 1)), h7.2))))) else (if ((zup (zup h3.1 123 14 (if v4 = 0 then (1 : Int32) else 0)) 123 13 (((zup h3.1 123 14 (if v4 = 0 then (1 : Int32) else 0)) 123 13) + (if ((zup h3.1 123 14 (if v4 = 0 then (1 : Int32) else 0)) 123 14) = 0 then (1 : Int32) else 0))) 123 14) = 0 then (zbI (zcf X m_M_here [.ref 123] ((zup (zup h3.1 123 14 (if v4 = 0 then (1 : Int32) else 0)) 123 13 (((zup h3.1 123 14 (if v4 = 0 then (1 : Int32) else 0)) 123 13) + (if ((zup h3.1 123 14 (if v4 = 0 then (1 : Int32) else 0)) 123 14) = 0 then (1 : Int32) else 0))), h3.2)) fun v14 h13 => (some (none, ((zup (zup (zup h13.1 123 14 (if v14 = 59 then (0 : Int32) else 1)) 123 13 (((zup h13.1 123 14 (if v14 = 59 then (0 : Int32) else 1)) 123 13) + (if ((zup h13.1 123 14 (if v14 = 59 then (0 : Int32) else 1)) 123 14) = 0 then (1 : Int32) else 0))) 123 15 (((zup (zup h13.1 123 14 (if v14 = 59 then (0 : Int32) else 1)) 123 13 (((zup h13.1 123 14 (if v14 = 59 then (0 : Int32) else 1)) 123 13) + (if ((zup h13.1 123 14 (if v14 = 59 then (0 : Int32) else 1)) 123 14) = 0 then (1 : Int32) else 0))) 123 15) + 1)), h13.2)))) else (some (none, ((zup (zup (zup (zup (zup h3.1 123 14 (if v4 = 0 then (1 : Int32) else 0)) 123 13 (((zup h3.1 123 14 (if v4 = 0 then (1 : Int32) else 0)) 123 13) + (if ((zup h3.1 123 14 (if v4 = 0 then (1 : Int32) else 0)) 123 14) = 0 then (1 : Int32) else 0))) 123 14 1) 123 13 (((zup (zup (zup h3.1 123 14 (if v4 = 0 then (1 : Int32) else 0)) 123 13 (((zup h3.1 123 14 (if v4 = 0 then (1 : Int32) else 0)) 123 13) + (if ((zup h3.1 123 14 (if v4 = 0 then (1 : Int32) else 0)) 123 14) = 0 then (1 : Int32) else 0))) 123 14 1) 123 13) + (if ((zup (zup (zup h3.1 123 14 (if v4 = 0 then (1 : Int32) else 0)) 123 13 (((zup h3.1 123 14 (if v4 = 0 then (1 : Int32) else 0)) 123 13) + (if ((zup h3.1 123 14 (if v4 = 0 then (1 : Int32) else 0)) 123 14) = 0 then (1 : Int32) else 0))) 123 14 1) 123 14) = 0 then (1 : Int32) else 0))) 123 15 (((zup (zup (zup (zup h3.1 123 14 (if v4 = 0 then (1 : Int32) else 0)) 123 13 (((zup h3.1 123 14 (if v4 = 0 then (1 : Int32) else 0)) 123 13) + (if ((zup h3.1 123 14 (if v4 = 0 then (1 : Int32) else 0)) 123 14) = 0 then (1 : Int32) else 0))) 123 14 1) 123 13 (((zup (zup (zup h3.1 123 14 (if v4 = 0 then (1 : Int32) else 0)) 123 13 (((zup h3.1 123 14 (if v4 = 0 then (1 : Int32) else 0)) 123 13) + (if ((zup h3.1 123 14 (if v4 = 0 then (1 : Int32) else 0)) 123 14) = 0 then (1 : Int32) else 0))) 123 14 1) 123 13) + (if ((zup (zup (zup h3.1 123 14 (if v4 = 0 then (1 : Int32) else 0)) 123 13 (((zup h3.1 123 14 (if v4 = 0 then (1 : Int32) else 0)) 123 13) + (if ((zup h3.1 123 14 (if v4 = 0 then (1 : Int32) else 0)) 123 14) = 0 then (1 : Int32) else 0))) 123 14 1) 123 14) = 0 then (1 : Int32) else 0))) 123 15) + 1)), h3.2)))))) else (if ((zup (zup (zup (zup h1.1 131 (Int32.toNatClampNeg (h.1 123 15)) (h1.1 123 13)) 132 (Int32.toNatClampNeg (h.1 123 15)) v2) 123 14 1) 123 13 (((zup (zup (zup h1.1 131 (Int32.toNatClampNeg (h.1 123 15)) (h1.1 123 13)) 132 (Int32.toNatClampNeg (h.1 123 15)) v2) 123 14 1) 123 13) + (if ((zup (zup (zup h1.1 131 (Int32.toNatClampNeg (h.1 123 15)) (h1.1 123 13)) 132 (Int32.toNatClampNeg (h.1 123 15)) v2) 123 14 1) 123 14) = 0 then (1 : Int32) else 0))) 123 14) = 0 then (zbV (zcf X m_M_readNumbers [.ref 123, .int v2, .int (4 * (h.1 123 15))] ((zup (zup (zup (zup h1.1 131 (Int32.toNatClampNeg (h.1 123 15)) (h1.1 123 13)) 132 (Int32.toNatClampNeg (h.1 123 15)) v2) 123 14 1) 123 13 (((zup (zup (zup h1.1 131 (Int32.toNatClampNeg (h.1 123 15)) (h1.1 123 13)) 132 (Int32.toNatClampNeg (h.1 123 15)) v2) 123 14 1) 123 13) + (if ((zup (zup (zup h1.1 131 (Int32.toNatClampNeg (h.1 123 15)) (h1.1 123 13)) 132 (Int32.toNatClampNeg (h.1 123 15)) v2) 123 14 1) 123 14) = 0 then (1 : Int32) else 0))), h1.2)) fun h19 => (if (h19.1 123 14) = 0 then (zbI (zcf X m_M_here [.ref 123] h19) fun v21 h20 => (some (none, ((zup (zup (zup h20.1 123 14 (if v21 = 59 then (0 : Int32) else 1)) 123 13 (((zup h20.1 123 14 (if v21 = 59 then (0 : Int32) else 1)) 123 13) + (if ((zup h20.1 123 14 (if v21 = 59 then (0 : Int32) else 1)) 123 14) = 0 then (1 : Int32) else 0))) 123 15 (((zup (zup h20.1 123 14 (if v21 = 59 then (0 : Int32) else 1)) 123 13 (((zup h20.1 123 14 (if v21 = 59 then (0 : Int32) else 1)) 123 13) + (if ((zup h20.1 123 14 (if v21 = 59 then (0 : Int32) else 1)) 123 14) = 0 then (1 : Int32) else 0))) 123 15) + 1)), h20.2)))) else (some (none, ((zup (zup (zup h19.1 123 14 1) 123 13 (((zup h19.1 123 14 1) 123 13) + (if ((zup h19.1 123 14 1) 123 14) = 0 then (1 : Int32) else 0))) 123 15 (((zup (zup h19.1 123 14 1) 123 13 (((zup h19.1 123 14 1) 123 13) + (if ((zup h19.1 123 14 1) 123 14) = 0 then (1 : Int32) else 0))) 123 15) + 1)), h19.2))))) else (if ((zup (zup (zup (zup h1.1 131 (Int32.toNatClampNeg (h.1 123 15)) (h1.1 123 13)) 132 (Int32.toNatClampNeg (h.1 123 15)) v2) 123 14 1) 123 13 (((zup (zup (zup h1.1 131 (Int32.toNatClampNeg (h.1 123 15)) (h1.1 123 13)) 132 (Int32.toNatClampNeg (h.1 123 15)) v2) 123 14 1) 123 13) + (if ((zup (zup (zup h1.1 131 (Int32.toNatClampNeg (h.1 123 15)) (h1.1 123 13)) 132 (Int32.toNatClampNeg (h.1 123 15)) v2) 123 14 1) 123 14) = 0 then (1 : Int32) else 0))) 123 14) = 0 then (zbI (zcf X m_M_here [.ref 123] ((zup (zup (zup (zup h1.1 131 (Int32.toNatClampNeg (h.1 123 15)) (h1.1 123 13)) 132 (Int32.toNatClampNeg (h.1 123 15)) v2) 123 14 1) 123 13 (((zup (zup (zup h1.1 131 (Int32.toNatClampNeg (h.1 123 15)) (h1.1 123 13)) 132 (Int32.toNatClampNeg (h.1 123 15)) v2) 123 14 1) 123 13) + (if ((zup (zup (zup h1.1 131 (Int32.toNatClampNeg (h.1 123 15)) (h1.1 123 13)) 132 (Int32.toNatClampNeg (h.1 123 15)) v2) 123 14 1) 123 14) = 0 then (1 : Int32) else 0))), h1.2)) fun v26 h25 => (some (none, ((zup (zup (zup h25.1 123 14 (if v26 = 59 then (0 : Int32) else 1)) 123 13 (((zup h25.1 123 14 (if v26 = 59 then (0 : Int32) else 1)) 123 13) + (if ((zup h25.1 123 14 (if v26 = 59 then (0 : Int32) else 1)) 123 14) = 0 then (1 : Int32) else 0))) 123 15 (((zup (zup h25.1 123 14 (if v26 = 59 then (0 : Int32) else 1)) 123 13 (((zup h25.1 123 14 (if v26 = 59 then (0 : Int32) else 1)) 123 13) + (if ((zup h25.1 123 14 (if v26 = 59 then (0 : Int32) else 1)) 123 14) = 0 then (1 : Int32) else 0))) 123 15) + 1)), h25.2)))) else (some (none, ((zup (zup (zup (zup (zup (zup (zup h1.1 131 (Int32.toNatClampNeg (h.1 123 15)) (h1.1 123 13)) 132 (Int32.toNatClampNeg (h.1 123 15)) v2) 123 14 1) 123 13 (((zup (zup (zup h1.1 131 (Int32.toNatClampNeg (h.1 123 15)) (h1.1 123 13)) 132 (Int32.toNatClampNeg (h.1 123 15)) v2) 123 14 1) 123 13) + (if ((zup (zup (zup h1.1 131 (Int32.toNatClampNeg (h.1 123 15)) (h1.1 123 13)) 132 (Int32.toNatClampNeg (h.1 123 15)) v2) 123 14 1) 123 14) = 0 then (1 : Int32) else 0))) 123 14 1) 123 13 (((zup (zup (zup (zup (zup h1.1 131 (Int32.toNatClampNeg (h.1 123 15)) (h1.1 123 13)) 132 (Int32.toNatClampNeg (h.1 123 15)) v2) 123 14 1) 123 13 (((zup (zup (zup h1.1 131 (Int32.toNatClampNeg (h.1 123 15)) (h1.1 123 13)) 132 (Int32.toNatClampNeg (h.1 123 15)) v2) 123 14 1) 123 13) + (if ((zup (zup (zup h1.1 131 (Int32.toNatClampNeg (h.1 123 15)) (h1.1 123 13)) 132 (Int32.toNatClampNeg (h.1 123 15)) v2) 123 14 1) 123 14) = 0 then (1 : Int32) else 0))) 123 14 1) 123 13) + (if ((zup (zup (zup (zup (zup h1.1 131 (Int32.toNatClampNeg (h.1 123 15)) (h1.1 123 13)) 132 (Int32.toNatClampNeg (h.1 123 15)) v2) 123 14 1) 123 13 (((zup (zup (zup h1.1 131 (Int32.toNatClampNeg (h.1 123 15)) (h1.1 123 13)) 132 (Int32.toNatClampNeg (h.1 123 15)) v2) 123 14 1) 123 13) + (if ((zup (zup (zup h1.1 131 (Int32.toNatClampNeg (h.1 123 15)) (h1.1 123 13)) 132 (Int32.toNatClampNeg (h.1 123 15)) v2) 123 14 1) 123 14) = 0 then (1 : Int32) else 0))) 123 14 1) 123 14) = 0 then (1 : Int32) else 0))) 123 15 (((zup (zup (zup (zup (zup (zup h1.1 131 (Int32.toNatClampNeg (h.1 123 15)) (h1.1 123 13)) 132 (Int32.toNatClampNeg (h.1 123 15)) v2) 123 14 1) 123 13 (((zup (zup (zup h1.1 131 (Int32.toNatClampNeg (h.1 123 15)) (h1.1 123 13)) 132 (Int32.toNatClampNeg (h.1 123 15)) v2) 123 14 1) 123 13) + (if ((zup (zup (zup h1.1 131 (Int32.toNatClampNeg (h.1 123 15)) (h1.1 123 13)) 132 (Int32.toNatClampNeg (h.1 123 15)) v2) 123 14 1) 123 14) = 0 then (1 : Int32) else 0))) 123 14 1) 123 13 (((zup (zup (zup (zup (zup h1.1 131 (Int32.toNatClampNeg (h.1 123 15)) (h1.1 123 13)) 132 (Int32.toNatClampNeg (h.1 123 15)) v2) 123 14 1) 123 13 (((zup (zup (zup h1.1 131 (Int32.toNatClampNeg (h.1 123 15)) (h1.1 123 13)) 132 (Int32.toNatClampNeg (h.1 123 15)) v2) 123 14 1) 123 13) + (if ((zup (zup (zup h1.1 131 (Int32.toNatClampNeg (h.1 123 15)) (h1.1 123 13)) 132 (Int32.toNatClampNeg (h.1 123 15)) v2) 123 14 1) 123 14) = 0 then (1 : Int32) else 0))) 123 14 1) 123 13) + (if ((zup (zup (zup (zup (zup h1.1 131 (Int32.toNatClampNeg (h.1 123 15)) (h1.1 123 13)) 132 (Int32.toNatClampNeg (h.1 123 15)) v2) 123 14 1) 123 13 (((zup (zup (zup h1.1 131 (Int32.toNatClampNeg (h.1 123 15)) (h1.1 123 13)) 132 (Int32.toNatClampNeg (h.1 123 15)) v2) 123 14 1) 123 13) + (if ((zup (zup (zup h1.1 131 (Int32.toNatClampNeg (h.1 123 15)) (h1.1 123 13)) 132 (Int32.toNatClampNeg (h.1 123 15)) v2) 123 14 1) 123 14) = 0 then (1 : Int32) else 0))) 123 14 1) 123 14) = 0 then (1 : Int32) else 0))) 123 15) + 1)), h1.2)))))) else none) else none)) := by
  refine (zcf_run (Nat.le_of_ble_eq_true rfl)).trans ?_
  show zrn X 3 m_M_readStatement 0 [some (.ref 123), none, none] [] h = _
  refine (rn_ld d_M_readStatement_0 rfl rfl rfl rfl).trans ?_
  refine (rn_gi d_M_readStatement_1 f_4_147 zc_123).trans ?_
  refine (rn_st d_M_readStatement_4 rfl rfl rfl (by decide) rfl (Nat.le_of_ble_eq_true rfl) (ls' := [some (.ref 123), some (.int (h.1 123 15)), none]) rfl).trans ?_
  refine (rn_ld d_M_readStatement_5 rfl rfl rfl rfl).trans ?_
  refine (rn_vI d_M_readStatement_6 (zinv_v l_4_136 (by decide) (Nat.le_of_ble_eq_true rfl) rfl rfl zc_123 (Nat.le_of_ble_eq_true rfl)) (Nat.le_of_ble_eq_true rfl) (Or.inl rfl)).trans (zbI_congr fun v2 h1 => ?_)
  refine (rn_st d_M_readStatement_9 rfl rfl rfl (by decide) rfl (Nat.le_of_ble_eq_true rfl) (ls' := [some (.ref 123), some (.int (h.1 123 15)), some (.int v2)]) rfl).trans ?_
  refine (rn_ld d_M_readStatement_10 rfl rfl rfl rfl).trans ?_
  refine (rn_gr d_M_readStatement_11 f_4_31 zc_123 zr_123_16).trans ?_
  refine (rn_ld d_M_readStatement_14 rfl rfl rfl rfl).trans ?_
  refine (rn_ld d_M_readStatement_15 rfl rfl rfl rfl).trans ?_
  refine (rn_gi d_M_readStatement_16 f_4_129 zc_123).trans ?_
  refine (rn_ias d_M_readStatement_19 zc_131).trans (zif ?_ rfl)
  refine (rn_ld d_M_readStatement_20 rfl rfl rfl rfl).trans ?_
  refine (rn_gr d_M_readStatement_21 f_4_34 zc_123 zr_123_17).trans ?_
  refine (rn_ld d_M_readStatement_24 rfl rfl rfl rfl).trans ?_
  refine (rn_ld d_M_readStatement_25 rfl rfl rfl rfl).trans ?_
  refine (rn_ias d_M_readStatement_26 zc_132).trans (zif ?_ rfl)
  refine (rn_ld d_M_readStatement_27 rfl rfl rfl rfl).trans ?_
  refine (rn_ld d_M_readStatement_28 rfl rfl rfl rfl).trans ?_
  refine (rn_gz d_M_readStatement_29 f_4_132 zc_123).trans ?_
  refine (rn_if_ne d_M_readStatement_32 (t := 42) (by decide)).trans (zif ?_ ?_)
  · refine (rn_ld d_M_readStatement_35 rfl rfl rfl rfl).trans ?_
    refine (rn_sI d_M_readStatement_36 nb_4_150 (zinv_s l_4_150 (by decide) (Nat.le_of_ble_eq_true rfl) rfl rfl (Nat.le_of_ble_eq_true rfl)) (Nat.le_of_ble_eq_true rfl) (Or.inr rfl)).trans (zbI_congr fun v4 h3 => ?_)
    refine Eq.trans (b := zrn X 3 m_M_readStatement 47 [some (.ref 123), some (.int (h.1 123 15)), some (.int v2)] [.int (if v4 = 0 then (1 : Int32) else 0), .ref 123] h3) ?_ ?_
    · refine (rn_if_ne d_M_readStatement_39 (t := 46) (by decide)).trans ?_
      by_cases q5 : v4 = 0
      · simp only [if_pos q5]
        refine (rn_push d_M_readStatement_42 zcs_iconst_1).trans ?_
        refine (rn_goto d_M_readStatement_43 (t := 47) (by decide)).trans ?_
        all_goals rfl
      · simp only [if_neg q5]
        refine (rn_push d_M_readStatement_46 zcs_iconst_0).trans ?_
        all_goals rfl
    refine (rn_pz d_M_readStatement_47 f_4_132 zc_123 (by (repeat' split) <;> decide)).trans ?_
    refine (rn_ld d_M_readStatement_50 rfl rfl rfl rfl).trans ?_
    refine (rn_dup d_M_readStatement_51 rfl).trans ?_
    refine (rn_gi d_M_readStatement_52 f_4_129 zc_123).trans ?_
    refine (rn_ld d_M_readStatement_55 rfl rfl rfl rfl).trans ?_
    refine (rn_gz d_M_readStatement_56 f_4_132 zc_123).trans ?_
    refine Eq.trans (b := zrn X 3 m_M_readStatement 67 [some (.ref 123), some (.int (h.1 123 15)), some (.int v2)] [.int (if ((zup h3.1 123 14 (if v4 = 0 then (1 : Int32) else 0)) 123 14) = 0 then (1 : Int32) else 0), .int ((zup h3.1 123 14 (if v4 = 0 then (1 : Int32) else 0)) 123 13), .ref 123] ((zup h3.1 123 14 (if v4 = 0 then (1 : Int32) else 0)), h3.2)) ?_ ?_
    · refine (rn_if_eq d_M_readStatement_59 (t := 66) (by decide)).trans ?_
      by_cases q6 : ((zup h3.1 123 14 (if v4 = 0 then (1 : Int32) else 0)) 123 14) = 0
      · simp only [if_pos q6]
        refine (rn_push d_M_readStatement_66 zcs_iconst_1).trans ?_
        all_goals rfl
      · simp only [if_neg q6]
        refine (rn_push d_M_readStatement_62 zcs_iconst_0).trans ?_
        refine (rn_goto d_M_readStatement_63 (t := 67) (by decide)).trans ?_
        all_goals rfl
    refine (rn_a2 d_M_readStatement_67 rfl).trans ?_
    refine (rn_pi d_M_readStatement_68 f_4_129 zc_123).trans ?_
    refine (rn_ld d_M_readStatement_71 rfl rfl rfl rfl).trans ?_
    refine (rn_gz d_M_readStatement_72 f_4_132 zc_123).trans ?_
    refine (rn_if_ne d_M_readStatement_75 (t := 86) (by decide)).trans (zif ?_ ?_)
    · refine (rn_ld d_M_readStatement_78 rfl rfl rfl rfl).trans ?_
      refine (rn_ld d_M_readStatement_79 rfl rfl rfl rfl).trans ?_
      refine (rn_push d_M_readStatement_80 zcs_iconst_4).trans ?_
      refine (rn_ld d_M_readStatement_81 rfl rfl rfl rfl).trans ?_
      refine (rn_a2 d_M_readStatement_82 rfl).trans ?_
      refine (rn_vV d_M_readStatement_83 (zinv_v l_4_153 (by decide) (Nat.le_of_ble_eq_true rfl) rfl rfl zc_123 (Nat.le_of_ble_eq_true rfl)) (Nat.le_of_ble_eq_true rfl) rfl).trans (zbV_congr fun h7 => ?_)
      refine (rn_ld d_M_readStatement_86 rfl rfl rfl rfl).trans ?_
      refine (rn_ld d_M_readStatement_87 rfl rfl rfl rfl).trans ?_
      refine (rn_gz d_M_readStatement_88 f_4_132 zc_123).trans ?_
      refine (rn_if_ne d_M_readStatement_91 (t := 103) (by decide)).trans (zif ?_ ?_)
      · refine (rn_ld d_M_readStatement_94 rfl rfl rfl rfl).trans ?_
        refine (rn_vI d_M_readStatement_95 (zinv_v l_4_136 (by decide) (Nat.le_of_ble_eq_true rfl) rfl rfl zc_123 (Nat.le_of_ble_eq_true rfl)) (Nat.le_of_ble_eq_true rfl) (Or.inl rfl)).trans (zbI_congr fun v9 h8 => ?_)
        refine (rn_push d_M_readStatement_98 zcs_bipush_59).trans ?_
        refine Eq.trans (b := zrn X 3 m_M_readStatement 108 [some (.ref 123), some (.int (h.1 123 15)), some (.int v2)] [.int (if v9 = 59 then (0 : Int32) else 1), .ref 123] h8) ?_ ?_
        · refine (rn_ic_eq d_M_readStatement_100 (t := 107) (by decide)).trans ?_
          by_cases q10 : v9 = 59
          · simp only [if_pos q10]
            refine (rn_push d_M_readStatement_107 zcs_iconst_0).trans ?_
            all_goals rfl
          · simp only [if_neg q10]
            refine (rn_push d_M_readStatement_103 zcs_iconst_1).trans ?_
            refine (rn_goto d_M_readStatement_104 (t := 108) (by decide)).trans ?_
            all_goals rfl
        refine (rn_pz d_M_readStatement_108 f_4_132 zc_123 (by (repeat' split) <;> decide)).trans ?_
        refine (rn_ld d_M_readStatement_111 rfl rfl rfl rfl).trans ?_
        refine (rn_dup d_M_readStatement_112 rfl).trans ?_
        refine (rn_gi d_M_readStatement_113 f_4_129 zc_123).trans ?_
        refine (rn_ld d_M_readStatement_116 rfl rfl rfl rfl).trans ?_
        refine (rn_gz d_M_readStatement_117 f_4_132 zc_123).trans ?_
        refine Eq.trans (b := zrn X 3 m_M_readStatement 128 [some (.ref 123), some (.int (h.1 123 15)), some (.int v2)] [.int (if ((zup h8.1 123 14 (if v9 = 59 then (0 : Int32) else 1)) 123 14) = 0 then (1 : Int32) else 0), .int ((zup h8.1 123 14 (if v9 = 59 then (0 : Int32) else 1)) 123 13), .ref 123] ((zup h8.1 123 14 (if v9 = 59 then (0 : Int32) else 1)), h8.2)) ?_ ?_
        · refine (rn_if_eq d_M_readStatement_120 (t := 127) (by decide)).trans ?_
          by_cases q11 : ((zup h8.1 123 14 (if v9 = 59 then (0 : Int32) else 1)) 123 14) = 0
          · simp only [if_pos q11]
            refine (rn_push d_M_readStatement_127 zcs_iconst_1).trans ?_
            all_goals rfl
          · simp only [if_neg q11]
            refine (rn_push d_M_readStatement_123 zcs_iconst_0).trans ?_
            refine (rn_goto d_M_readStatement_124 (t := 128) (by decide)).trans ?_
            all_goals rfl
        refine (rn_a2 d_M_readStatement_128 rfl).trans ?_
        refine (rn_pi d_M_readStatement_129 f_4_129 zc_123).trans ?_
        refine (rn_ld d_M_readStatement_132 rfl rfl rfl rfl).trans ?_
        refine (rn_dup d_M_readStatement_133 rfl).trans ?_
        refine (rn_gi d_M_readStatement_134 f_4_147 zc_123).trans ?_
        refine (rn_push d_M_readStatement_137 zcs_iconst_1).trans ?_
        refine (rn_a2 d_M_readStatement_138 rfl).trans ?_
        refine (rn_pi d_M_readStatement_139 f_4_147 zc_123).trans ?_
        exact rn_rv d_M_readStatement_142 rfl
      · refine (rn_push d_M_readStatement_103 zcs_iconst_1).trans ?_
        refine (rn_goto d_M_readStatement_104 (t := 108) (by decide)).trans ?_
        refine (rn_pz d_M_readStatement_108 f_4_132 zc_123 (by decide)).trans ?_
        refine (rn_ld d_M_readStatement_111 rfl rfl rfl rfl).trans ?_
        refine (rn_dup d_M_readStatement_112 rfl).trans ?_
        refine (rn_gi d_M_readStatement_113 f_4_129 zc_123).trans ?_
        refine (rn_ld d_M_readStatement_116 rfl rfl rfl rfl).trans ?_
        refine (rn_gz d_M_readStatement_117 f_4_132 zc_123).trans ?_
        refine Eq.trans (b := zrn X 3 m_M_readStatement 128 [some (.ref 123), some (.int (h.1 123 15)), some (.int v2)] [.int (if ((zup h7.1 123 14 1) 123 14) = 0 then (1 : Int32) else 0), .int ((zup h7.1 123 14 1) 123 13), .ref 123] ((zup h7.1 123 14 1), h7.2)) ?_ ?_
        · refine (rn_if_eq d_M_readStatement_120 (t := 127) (by decide)).trans ?_
          by_cases q12 : ((zup h7.1 123 14 1) 123 14) = 0
          · simp only [if_pos q12]
            refine (rn_push d_M_readStatement_127 zcs_iconst_1).trans ?_
            all_goals rfl
          · simp only [if_neg q12]
            refine (rn_push d_M_readStatement_123 zcs_iconst_0).trans ?_
            refine (rn_goto d_M_readStatement_124 (t := 128) (by decide)).trans ?_
            all_goals rfl
        refine (rn_a2 d_M_readStatement_128 rfl).trans ?_
        refine (rn_pi d_M_readStatement_129 f_4_129 zc_123).trans ?_
        refine (rn_ld d_M_readStatement_132 rfl rfl rfl rfl).trans ?_
        refine (rn_dup d_M_readStatement_133 rfl).trans ?_
        refine (rn_gi d_M_readStatement_134 f_4_147 zc_123).trans ?_
        refine (rn_push d_M_readStatement_137 zcs_iconst_1).trans ?_
        refine (rn_a2 d_M_readStatement_138 rfl).trans ?_
        refine (rn_pi d_M_readStatement_139 f_4_147 zc_123).trans ?_
        exact rn_rv d_M_readStatement_142 rfl
    · refine (rn_ld d_M_readStatement_86 rfl rfl rfl rfl).trans ?_
      refine (rn_ld d_M_readStatement_87 rfl rfl rfl rfl).trans ?_
      refine (rn_gz d_M_readStatement_88 f_4_132 zc_123).trans ?_
      refine (rn_if_ne d_M_readStatement_91 (t := 103) (by decide)).trans (zif ?_ ?_)
      · refine (rn_ld d_M_readStatement_94 rfl rfl rfl rfl).trans ?_
        refine (rn_vI d_M_readStatement_95 (zinv_v l_4_136 (by decide) (Nat.le_of_ble_eq_true rfl) rfl rfl zc_123 (Nat.le_of_ble_eq_true rfl)) (Nat.le_of_ble_eq_true rfl) (Or.inl rfl)).trans (zbI_congr fun v14 h13 => ?_)
        refine (rn_push d_M_readStatement_98 zcs_bipush_59).trans ?_
        refine Eq.trans (b := zrn X 3 m_M_readStatement 108 [some (.ref 123), some (.int (h.1 123 15)), some (.int v2)] [.int (if v14 = 59 then (0 : Int32) else 1), .ref 123] h13) ?_ ?_
        · refine (rn_ic_eq d_M_readStatement_100 (t := 107) (by decide)).trans ?_
          by_cases q15 : v14 = 59
          · simp only [if_pos q15]
            refine (rn_push d_M_readStatement_107 zcs_iconst_0).trans ?_
            all_goals rfl
          · simp only [if_neg q15]
            refine (rn_push d_M_readStatement_103 zcs_iconst_1).trans ?_
            refine (rn_goto d_M_readStatement_104 (t := 108) (by decide)).trans ?_
            all_goals rfl
        refine (rn_pz d_M_readStatement_108 f_4_132 zc_123 (by (repeat' split) <;> decide)).trans ?_
        refine (rn_ld d_M_readStatement_111 rfl rfl rfl rfl).trans ?_
        refine (rn_dup d_M_readStatement_112 rfl).trans ?_
        refine (rn_gi d_M_readStatement_113 f_4_129 zc_123).trans ?_
        refine (rn_ld d_M_readStatement_116 rfl rfl rfl rfl).trans ?_
        refine (rn_gz d_M_readStatement_117 f_4_132 zc_123).trans ?_
        refine Eq.trans (b := zrn X 3 m_M_readStatement 128 [some (.ref 123), some (.int (h.1 123 15)), some (.int v2)] [.int (if ((zup h13.1 123 14 (if v14 = 59 then (0 : Int32) else 1)) 123 14) = 0 then (1 : Int32) else 0), .int ((zup h13.1 123 14 (if v14 = 59 then (0 : Int32) else 1)) 123 13), .ref 123] ((zup h13.1 123 14 (if v14 = 59 then (0 : Int32) else 1)), h13.2)) ?_ ?_
        · refine (rn_if_eq d_M_readStatement_120 (t := 127) (by decide)).trans ?_
          by_cases q16 : ((zup h13.1 123 14 (if v14 = 59 then (0 : Int32) else 1)) 123 14) = 0
          · simp only [if_pos q16]
            refine (rn_push d_M_readStatement_127 zcs_iconst_1).trans ?_
            all_goals rfl
          · simp only [if_neg q16]
            refine (rn_push d_M_readStatement_123 zcs_iconst_0).trans ?_
            refine (rn_goto d_M_readStatement_124 (t := 128) (by decide)).trans ?_
            all_goals rfl
        refine (rn_a2 d_M_readStatement_128 rfl).trans ?_
        refine (rn_pi d_M_readStatement_129 f_4_129 zc_123).trans ?_
        refine (rn_ld d_M_readStatement_132 rfl rfl rfl rfl).trans ?_
        refine (rn_dup d_M_readStatement_133 rfl).trans ?_
        refine (rn_gi d_M_readStatement_134 f_4_147 zc_123).trans ?_
        refine (rn_push d_M_readStatement_137 zcs_iconst_1).trans ?_
        refine (rn_a2 d_M_readStatement_138 rfl).trans ?_
        refine (rn_pi d_M_readStatement_139 f_4_147 zc_123).trans ?_
        exact rn_rv d_M_readStatement_142 rfl
      · refine (rn_push d_M_readStatement_103 zcs_iconst_1).trans ?_
        refine (rn_goto d_M_readStatement_104 (t := 108) (by decide)).trans ?_
        refine (rn_pz d_M_readStatement_108 f_4_132 zc_123 (by decide)).trans ?_
        refine (rn_ld d_M_readStatement_111 rfl rfl rfl rfl).trans ?_
        refine (rn_dup d_M_readStatement_112 rfl).trans ?_
        refine (rn_gi d_M_readStatement_113 f_4_129 zc_123).trans ?_
        refine (rn_ld d_M_readStatement_116 rfl rfl rfl rfl).trans ?_
        refine (rn_gz d_M_readStatement_117 f_4_132 zc_123).trans ?_
        refine Eq.trans (b := zrn X 3 m_M_readStatement 128 [some (.ref 123), some (.int (h.1 123 15)), some (.int v2)] [.int (if ((zup (zup (zup h3.1 123 14 (if v4 = 0 then (1 : Int32) else 0)) 123 13 (((zup h3.1 123 14 (if v4 = 0 then (1 : Int32) else 0)) 123 13) + (if ((zup h3.1 123 14 (if v4 = 0 then (1 : Int32) else 0)) 123 14) = 0 then (1 : Int32) else 0))) 123 14 1) 123 14) = 0 then (1 : Int32) else 0), .int ((zup (zup (zup h3.1 123 14 (if v4 = 0 then (1 : Int32) else 0)) 123 13 (((zup h3.1 123 14 (if v4 = 0 then (1 : Int32) else 0)) 123 13) + (if ((zup h3.1 123 14 (if v4 = 0 then (1 : Int32) else 0)) 123 14) = 0 then (1 : Int32) else 0))) 123 14 1) 123 13), .ref 123] ((zup (zup (zup h3.1 123 14 (if v4 = 0 then (1 : Int32) else 0)) 123 13 (((zup h3.1 123 14 (if v4 = 0 then (1 : Int32) else 0)) 123 13) + (if ((zup h3.1 123 14 (if v4 = 0 then (1 : Int32) else 0)) 123 14) = 0 then (1 : Int32) else 0))) 123 14 1), h3.2)) ?_ ?_
        · refine (rn_if_eq d_M_readStatement_120 (t := 127) (by decide)).trans ?_
          by_cases q17 : ((zup (zup (zup h3.1 123 14 (if v4 = 0 then (1 : Int32) else 0)) 123 13 (((zup h3.1 123 14 (if v4 = 0 then (1 : Int32) else 0)) 123 13) + (if ((zup h3.1 123 14 (if v4 = 0 then (1 : Int32) else 0)) 123 14) = 0 then (1 : Int32) else 0))) 123 14 1) 123 14) = 0
          · simp only [if_pos q17]
            refine (rn_push d_M_readStatement_127 zcs_iconst_1).trans ?_
            all_goals rfl
          · simp only [if_neg q17]
            refine (rn_push d_M_readStatement_123 zcs_iconst_0).trans ?_
            refine (rn_goto d_M_readStatement_124 (t := 128) (by decide)).trans ?_
            all_goals rfl
        refine (rn_a2 d_M_readStatement_128 rfl).trans ?_
        refine (rn_pi d_M_readStatement_129 f_4_129 zc_123).trans ?_
        refine (rn_ld d_M_readStatement_132 rfl rfl rfl rfl).trans ?_
        refine (rn_dup d_M_readStatement_133 rfl).trans ?_
        refine (rn_gi d_M_readStatement_134 f_4_147 zc_123).trans ?_
        refine (rn_push d_M_readStatement_137 zcs_iconst_1).trans ?_
        refine (rn_a2 d_M_readStatement_138 rfl).trans ?_
        refine (rn_pi d_M_readStatement_139 f_4_147 zc_123).trans ?_
        exact rn_rv d_M_readStatement_142 rfl
  · refine (rn_push d_M_readStatement_42 zcs_iconst_1).trans ?_
    refine (rn_goto d_M_readStatement_43 (t := 47) (by decide)).trans ?_
    refine (rn_pz d_M_readStatement_47 f_4_132 zc_123 (by decide)).trans ?_
    refine (rn_ld d_M_readStatement_50 rfl rfl rfl rfl).trans ?_
    refine (rn_dup d_M_readStatement_51 rfl).trans ?_
    refine (rn_gi d_M_readStatement_52 f_4_129 zc_123).trans ?_
    refine (rn_ld d_M_readStatement_55 rfl rfl rfl rfl).trans ?_
    refine (rn_gz d_M_readStatement_56 f_4_132 zc_123).trans ?_
    refine Eq.trans (b := zrn X 3 m_M_readStatement 67 [some (.ref 123), some (.int (h.1 123 15)), some (.int v2)] [.int (if ((zup (zup (zup h1.1 131 (Int32.toNatClampNeg (h.1 123 15)) (h1.1 123 13)) 132 (Int32.toNatClampNeg (h.1 123 15)) v2) 123 14 1) 123 14) = 0 then (1 : Int32) else 0), .int ((zup (zup (zup h1.1 131 (Int32.toNatClampNeg (h.1 123 15)) (h1.1 123 13)) 132 (Int32.toNatClampNeg (h.1 123 15)) v2) 123 14 1) 123 13), .ref 123] ((zup (zup (zup h1.1 131 (Int32.toNatClampNeg (h.1 123 15)) (h1.1 123 13)) 132 (Int32.toNatClampNeg (h.1 123 15)) v2) 123 14 1), h1.2)) ?_ ?_
    · refine (rn_if_eq d_M_readStatement_59 (t := 66) (by decide)).trans ?_
      by_cases q18 : ((zup (zup (zup h1.1 131 (Int32.toNatClampNeg (h.1 123 15)) (h1.1 123 13)) 132 (Int32.toNatClampNeg (h.1 123 15)) v2) 123 14 1) 123 14) = 0
      · simp only [if_pos q18]
        refine (rn_push d_M_readStatement_66 zcs_iconst_1).trans ?_
        all_goals rfl
      · simp only [if_neg q18]
        refine (rn_push d_M_readStatement_62 zcs_iconst_0).trans ?_
        refine (rn_goto d_M_readStatement_63 (t := 67) (by decide)).trans ?_
        all_goals rfl
    refine (rn_a2 d_M_readStatement_67 rfl).trans ?_
    refine (rn_pi d_M_readStatement_68 f_4_129 zc_123).trans ?_
    refine (rn_ld d_M_readStatement_71 rfl rfl rfl rfl).trans ?_
    refine (rn_gz d_M_readStatement_72 f_4_132 zc_123).trans ?_
    refine (rn_if_ne d_M_readStatement_75 (t := 86) (by decide)).trans (zif ?_ ?_)
    · refine (rn_ld d_M_readStatement_78 rfl rfl rfl rfl).trans ?_
      refine (rn_ld d_M_readStatement_79 rfl rfl rfl rfl).trans ?_
      refine (rn_push d_M_readStatement_80 zcs_iconst_4).trans ?_
      refine (rn_ld d_M_readStatement_81 rfl rfl rfl rfl).trans ?_
      refine (rn_a2 d_M_readStatement_82 rfl).trans ?_
      refine (rn_vV d_M_readStatement_83 (zinv_v l_4_153 (by decide) (Nat.le_of_ble_eq_true rfl) rfl rfl zc_123 (Nat.le_of_ble_eq_true rfl)) (Nat.le_of_ble_eq_true rfl) rfl).trans (zbV_congr fun h19 => ?_)
      refine (rn_ld d_M_readStatement_86 rfl rfl rfl rfl).trans ?_
      refine (rn_ld d_M_readStatement_87 rfl rfl rfl rfl).trans ?_
      refine (rn_gz d_M_readStatement_88 f_4_132 zc_123).trans ?_
      refine (rn_if_ne d_M_readStatement_91 (t := 103) (by decide)).trans (zif ?_ ?_)
      · refine (rn_ld d_M_readStatement_94 rfl rfl rfl rfl).trans ?_
        refine (rn_vI d_M_readStatement_95 (zinv_v l_4_136 (by decide) (Nat.le_of_ble_eq_true rfl) rfl rfl zc_123 (Nat.le_of_ble_eq_true rfl)) (Nat.le_of_ble_eq_true rfl) (Or.inl rfl)).trans (zbI_congr fun v21 h20 => ?_)
        refine (rn_push d_M_readStatement_98 zcs_bipush_59).trans ?_
        refine Eq.trans (b := zrn X 3 m_M_readStatement 108 [some (.ref 123), some (.int (h.1 123 15)), some (.int v2)] [.int (if v21 = 59 then (0 : Int32) else 1), .ref 123] h20) ?_ ?_
        · refine (rn_ic_eq d_M_readStatement_100 (t := 107) (by decide)).trans ?_
          by_cases q22 : v21 = 59
          · simp only [if_pos q22]
            refine (rn_push d_M_readStatement_107 zcs_iconst_0).trans ?_
            all_goals rfl
          · simp only [if_neg q22]
            refine (rn_push d_M_readStatement_103 zcs_iconst_1).trans ?_
            refine (rn_goto d_M_readStatement_104 (t := 108) (by decide)).trans ?_
            all_goals rfl
        refine (rn_pz d_M_readStatement_108 f_4_132 zc_123 (by (repeat' split) <;> decide)).trans ?_
        refine (rn_ld d_M_readStatement_111 rfl rfl rfl rfl).trans ?_
        refine (rn_dup d_M_readStatement_112 rfl).trans ?_
        refine (rn_gi d_M_readStatement_113 f_4_129 zc_123).trans ?_
        refine (rn_ld d_M_readStatement_116 rfl rfl rfl rfl).trans ?_
        refine (rn_gz d_M_readStatement_117 f_4_132 zc_123).trans ?_
        refine Eq.trans (b := zrn X 3 m_M_readStatement 128 [some (.ref 123), some (.int (h.1 123 15)), some (.int v2)] [.int (if ((zup h20.1 123 14 (if v21 = 59 then (0 : Int32) else 1)) 123 14) = 0 then (1 : Int32) else 0), .int ((zup h20.1 123 14 (if v21 = 59 then (0 : Int32) else 1)) 123 13), .ref 123] ((zup h20.1 123 14 (if v21 = 59 then (0 : Int32) else 1)), h20.2)) ?_ ?_
        · refine (rn_if_eq d_M_readStatement_120 (t := 127) (by decide)).trans ?_
          by_cases q23 : ((zup h20.1 123 14 (if v21 = 59 then (0 : Int32) else 1)) 123 14) = 0
          · simp only [if_pos q23]
            refine (rn_push d_M_readStatement_127 zcs_iconst_1).trans ?_
            all_goals rfl
          · simp only [if_neg q23]
            refine (rn_push d_M_readStatement_123 zcs_iconst_0).trans ?_
            refine (rn_goto d_M_readStatement_124 (t := 128) (by decide)).trans ?_
            all_goals rfl
        refine (rn_a2 d_M_readStatement_128 rfl).trans ?_
        refine (rn_pi d_M_readStatement_129 f_4_129 zc_123).trans ?_
        refine (rn_ld d_M_readStatement_132 rfl rfl rfl rfl).trans ?_
        refine (rn_dup d_M_readStatement_133 rfl).trans ?_
        refine (rn_gi d_M_readStatement_134 f_4_147 zc_123).trans ?_
        refine (rn_push d_M_readStatement_137 zcs_iconst_1).trans ?_
        refine (rn_a2 d_M_readStatement_138 rfl).trans ?_
        refine (rn_pi d_M_readStatement_139 f_4_147 zc_123).trans ?_
        exact rn_rv d_M_readStatement_142 rfl
      · refine (rn_push d_M_readStatement_103 zcs_iconst_1).trans ?_
        refine (rn_goto d_M_readStatement_104 (t := 108) (by decide)).trans ?_
        refine (rn_pz d_M_readStatement_108 f_4_132 zc_123 (by decide)).trans ?_
        refine (rn_ld d_M_readStatement_111 rfl rfl rfl rfl).trans ?_
        refine (rn_dup d_M_readStatement_112 rfl).trans ?_
        refine (rn_gi d_M_readStatement_113 f_4_129 zc_123).trans ?_
        refine (rn_ld d_M_readStatement_116 rfl rfl rfl rfl).trans ?_
        refine (rn_gz d_M_readStatement_117 f_4_132 zc_123).trans ?_
        refine Eq.trans (b := zrn X 3 m_M_readStatement 128 [some (.ref 123), some (.int (h.1 123 15)), some (.int v2)] [.int (if ((zup h19.1 123 14 1) 123 14) = 0 then (1 : Int32) else 0), .int ((zup h19.1 123 14 1) 123 13), .ref 123] ((zup h19.1 123 14 1), h19.2)) ?_ ?_
        · refine (rn_if_eq d_M_readStatement_120 (t := 127) (by decide)).trans ?_
          by_cases q24 : ((zup h19.1 123 14 1) 123 14) = 0
          · simp only [if_pos q24]
            refine (rn_push d_M_readStatement_127 zcs_iconst_1).trans ?_
            all_goals rfl
          · simp only [if_neg q24]
            refine (rn_push d_M_readStatement_123 zcs_iconst_0).trans ?_
            refine (rn_goto d_M_readStatement_124 (t := 128) (by decide)).trans ?_
            all_goals rfl
        refine (rn_a2 d_M_readStatement_128 rfl).trans ?_
        refine (rn_pi d_M_readStatement_129 f_4_129 zc_123).trans ?_
        refine (rn_ld d_M_readStatement_132 rfl rfl rfl rfl).trans ?_
        refine (rn_dup d_M_readStatement_133 rfl).trans ?_
        refine (rn_gi d_M_readStatement_134 f_4_147 zc_123).trans ?_
        refine (rn_push d_M_readStatement_137 zcs_iconst_1).trans ?_
        refine (rn_a2 d_M_readStatement_138 rfl).trans ?_
        refine (rn_pi d_M_readStatement_139 f_4_147 zc_123).trans ?_
        exact rn_rv d_M_readStatement_142 rfl
    · refine (rn_ld d_M_readStatement_86 rfl rfl rfl rfl).trans ?_
      refine (rn_ld d_M_readStatement_87 rfl rfl rfl rfl).trans ?_
      refine (rn_gz d_M_readStatement_88 f_4_132 zc_123).trans ?_
      refine (rn_if_ne d_M_readStatement_91 (t := 103) (by decide)).trans (zif ?_ ?_)
      · refine (rn_ld d_M_readStatement_94 rfl rfl rfl rfl).trans ?_
        refine (rn_vI d_M_readStatement_95 (zinv_v l_4_136 (by decide) (Nat.le_of_ble_eq_true rfl) rfl rfl zc_123 (Nat.le_of_ble_eq_true rfl)) (Nat.le_of_ble_eq_true rfl) (Or.inl rfl)).trans (zbI_congr fun v26 h25 => ?_)
        refine (rn_push d_M_readStatement_98 zcs_bipush_59).trans ?_
        refine Eq.trans (b := zrn X 3 m_M_readStatement 108 [some (.ref 123), some (.int (h.1 123 15)), some (.int v2)] [.int (if v26 = 59 then (0 : Int32) else 1), .ref 123] h25) ?_ ?_
        · refine (rn_ic_eq d_M_readStatement_100 (t := 107) (by decide)).trans ?_
          by_cases q27 : v26 = 59
          · simp only [if_pos q27]
            refine (rn_push d_M_readStatement_107 zcs_iconst_0).trans ?_
            all_goals rfl
          · simp only [if_neg q27]
            refine (rn_push d_M_readStatement_103 zcs_iconst_1).trans ?_
            refine (rn_goto d_M_readStatement_104 (t := 108) (by decide)).trans ?_
            all_goals rfl
        refine (rn_pz d_M_readStatement_108 f_4_132 zc_123 (by (repeat' split) <;> decide)).trans ?_
        refine (rn_ld d_M_readStatement_111 rfl rfl rfl rfl).trans ?_
        refine (rn_dup d_M_readStatement_112 rfl).trans ?_
        refine (rn_gi d_M_readStatement_113 f_4_129 zc_123).trans ?_
        refine (rn_ld d_M_readStatement_116 rfl rfl rfl rfl).trans ?_
        refine (rn_gz d_M_readStatement_117 f_4_132 zc_123).trans ?_
        refine Eq.trans (b := zrn X 3 m_M_readStatement 128 [some (.ref 123), some (.int (h.1 123 15)), some (.int v2)] [.int (if ((zup h25.1 123 14 (if v26 = 59 then (0 : Int32) else 1)) 123 14) = 0 then (1 : Int32) else 0), .int ((zup h25.1 123 14 (if v26 = 59 then (0 : Int32) else 1)) 123 13), .ref 123] ((zup h25.1 123 14 (if v26 = 59 then (0 : Int32) else 1)), h25.2)) ?_ ?_
        · refine (rn_if_eq d_M_readStatement_120 (t := 127) (by decide)).trans ?_
          by_cases q28 : ((zup h25.1 123 14 (if v26 = 59 then (0 : Int32) else 1)) 123 14) = 0
          · simp only [if_pos q28]
            refine (rn_push d_M_readStatement_127 zcs_iconst_1).trans ?_
            all_goals rfl
          · simp only [if_neg q28]
            refine (rn_push d_M_readStatement_123 zcs_iconst_0).trans ?_
            refine (rn_goto d_M_readStatement_124 (t := 128) (by decide)).trans ?_
            all_goals rfl
        refine (rn_a2 d_M_readStatement_128 rfl).trans ?_
        refine (rn_pi d_M_readStatement_129 f_4_129 zc_123).trans ?_
        refine (rn_ld d_M_readStatement_132 rfl rfl rfl rfl).trans ?_
        refine (rn_dup d_M_readStatement_133 rfl).trans ?_
        refine (rn_gi d_M_readStatement_134 f_4_147 zc_123).trans ?_
        refine (rn_push d_M_readStatement_137 zcs_iconst_1).trans ?_
        refine (rn_a2 d_M_readStatement_138 rfl).trans ?_
        refine (rn_pi d_M_readStatement_139 f_4_147 zc_123).trans ?_
        exact rn_rv d_M_readStatement_142 rfl
      · refine (rn_push d_M_readStatement_103 zcs_iconst_1).trans ?_
        refine (rn_goto d_M_readStatement_104 (t := 108) (by decide)).trans ?_
        refine (rn_pz d_M_readStatement_108 f_4_132 zc_123 (by decide)).trans ?_
        refine (rn_ld d_M_readStatement_111 rfl rfl rfl rfl).trans ?_
        refine (rn_dup d_M_readStatement_112 rfl).trans ?_
        refine (rn_gi d_M_readStatement_113 f_4_129 zc_123).trans ?_
        refine (rn_ld d_M_readStatement_116 rfl rfl rfl rfl).trans ?_
        refine (rn_gz d_M_readStatement_117 f_4_132 zc_123).trans ?_
        refine Eq.trans (b := zrn X 3 m_M_readStatement 128 [some (.ref 123), some (.int (h.1 123 15)), some (.int v2)] [.int (if ((zup (zup (zup (zup (zup h1.1 131 (Int32.toNatClampNeg (h.1 123 15)) (h1.1 123 13)) 132 (Int32.toNatClampNeg (h.1 123 15)) v2) 123 14 1) 123 13 (((zup (zup (zup h1.1 131 (Int32.toNatClampNeg (h.1 123 15)) (h1.1 123 13)) 132 (Int32.toNatClampNeg (h.1 123 15)) v2) 123 14 1) 123 13) + (if ((zup (zup (zup h1.1 131 (Int32.toNatClampNeg (h.1 123 15)) (h1.1 123 13)) 132 (Int32.toNatClampNeg (h.1 123 15)) v2) 123 14 1) 123 14) = 0 then (1 : Int32) else 0))) 123 14 1) 123 14) = 0 then (1 : Int32) else 0), .int ((zup (zup (zup (zup (zup h1.1 131 (Int32.toNatClampNeg (h.1 123 15)) (h1.1 123 13)) 132 (Int32.toNatClampNeg (h.1 123 15)) v2) 123 14 1) 123 13 (((zup (zup (zup h1.1 131 (Int32.toNatClampNeg (h.1 123 15)) (h1.1 123 13)) 132 (Int32.toNatClampNeg (h.1 123 15)) v2) 123 14 1) 123 13) + (if ((zup (zup (zup h1.1 131 (Int32.toNatClampNeg (h.1 123 15)) (h1.1 123 13)) 132 (Int32.toNatClampNeg (h.1 123 15)) v2) 123 14 1) 123 14) = 0 then (1 : Int32) else 0))) 123 14 1) 123 13), .ref 123] ((zup (zup (zup (zup (zup h1.1 131 (Int32.toNatClampNeg (h.1 123 15)) (h1.1 123 13)) 132 (Int32.toNatClampNeg (h.1 123 15)) v2) 123 14 1) 123 13 (((zup (zup (zup h1.1 131 (Int32.toNatClampNeg (h.1 123 15)) (h1.1 123 13)) 132 (Int32.toNatClampNeg (h.1 123 15)) v2) 123 14 1) 123 13) + (if ((zup (zup (zup h1.1 131 (Int32.toNatClampNeg (h.1 123 15)) (h1.1 123 13)) 132 (Int32.toNatClampNeg (h.1 123 15)) v2) 123 14 1) 123 14) = 0 then (1 : Int32) else 0))) 123 14 1), h1.2)) ?_ ?_
        · refine (rn_if_eq d_M_readStatement_120 (t := 127) (by decide)).trans ?_
          by_cases q29 : ((zup (zup (zup (zup (zup h1.1 131 (Int32.toNatClampNeg (h.1 123 15)) (h1.1 123 13)) 132 (Int32.toNatClampNeg (h.1 123 15)) v2) 123 14 1) 123 13 (((zup (zup (zup h1.1 131 (Int32.toNatClampNeg (h.1 123 15)) (h1.1 123 13)) 132 (Int32.toNatClampNeg (h.1 123 15)) v2) 123 14 1) 123 13) + (if ((zup (zup (zup h1.1 131 (Int32.toNatClampNeg (h.1 123 15)) (h1.1 123 13)) 132 (Int32.toNatClampNeg (h.1 123 15)) v2) 123 14 1) 123 14) = 0 then (1 : Int32) else 0))) 123 14 1) 123 14) = 0
          · simp only [if_pos q29]
            refine (rn_push d_M_readStatement_127 zcs_iconst_1).trans ?_
            all_goals rfl
          · simp only [if_neg q29]
            refine (rn_push d_M_readStatement_123 zcs_iconst_0).trans ?_
            refine (rn_goto d_M_readStatement_124 (t := 128) (by decide)).trans ?_
            all_goals rfl
        refine (rn_a2 d_M_readStatement_128 rfl).trans ?_
        refine (rn_pi d_M_readStatement_129 f_4_129 zc_123).trans ?_
        refine (rn_ld d_M_readStatement_132 rfl rfl rfl rfl).trans ?_
        refine (rn_dup d_M_readStatement_133 rfl).trans ?_
        refine (rn_gi d_M_readStatement_134 f_4_147 zc_123).trans ?_
        refine (rn_push d_M_readStatement_137 zcs_iconst_1).trans ?_
        refine (rn_a2 d_M_readStatement_138 rfl).trans ?_
        refine (rn_pi d_M_readStatement_139 f_4_147 zc_123).trans ?_
        exact rn_rv d_M_readStatement_142 rfl
theorem e_M_here {X : zX} {h : zH} : zcf X m_M_here [.ref 123] h = (if (h.1 123 12) ≤ (h.1 123 13) then (some (some (.int (-1)), h)) else (if zin (h.1 123 13) 96 = true then (some (some (.int (h.1 130 (Int32.toNatClampNeg (h.1 123 13)))), h)) else none)) := by
  refine (zcf_run (Nat.le_of_ble_eq_true rfl)).trans ?_
  show zrn X 0 m_M_here 0 [some (.ref 123)] [] h = _
  refine (rn_ld d_M_here_0 rfl rfl rfl rfl).trans ?_
  refine (rn_gi d_M_here_1 f_4_129 zc_123).trans ?_
  refine (rn_ld d_M_here_4 rfl rfl rfl rfl).trans ?_
  refine (rn_gi d_M_here_5 f_4_126 zc_123).trans ?_
  refine (rn_ic_ge d_M_here_8 (t := 23) (by decide)).trans (zif ?_ ?_)
  · refine (rn_push d_M_here_23 zcs_iconst_m1).trans ?_
    exact rn_ri d_M_here_24 rfl
  · refine (rn_ld d_M_here_11 rfl rfl rfl rfl).trans ?_
    refine (rn_gr d_M_here_12 f_4_28 zc_123 zr_123_11).trans ?_
    refine (rn_ld d_M_here_15 rfl rfl rfl rfl).trans ?_
    refine (rn_gi d_M_here_16 f_4_129 zc_123).trans ?_
    refine (rn_ial d_M_here_19 (by decide) zc_130).trans (zif ?_ rfl)
    refine (rn_goto d_M_here_20 (t := 24) (by decide)).trans ?_
    exact rn_ri d_M_here_24 rfl
theorem e_M_isLetter {X : zX} {x0 : Int32} {h : zH} : zcf X m_M_isLetter [.int x0] h = (if x0 = 112 then (some (some (.int 1), h)) else (if x0 = 102 then (some (some (.int 1), h)) else (if x0 = 99 then (some (some (.int 1), h)) else (if x0 = 110 then (some (some (.int 1), h)) else (some (some (.int 0), h)))))) := by
  refine (zcf_run (Nat.le_of_ble_eq_true rfl)).trans ?_
  show zrn X 0 m_M_isLetter 0 [some (.int x0)] [] h = _
  refine (rn_ld d_M_isLetter_0 rfl rfl rfl rfl).trans ?_
  refine (rn_push d_M_isLetter_1 zcs_bipush_112).trans ?_
  refine (rn_ic_eq d_M_isLetter_3 (t := 24) (by decide)).trans (zif ?_ ?_)
  · refine (rn_push d_M_isLetter_24 zcs_iconst_1).trans ?_
    refine (rn_goto d_M_isLetter_25 (t := 29) (by decide)).trans ?_
    exact rn_rz d_M_isLetter_29 rfl (by decide)
  · refine (rn_ld d_M_isLetter_6 rfl rfl rfl rfl).trans ?_
    refine (rn_push d_M_isLetter_7 zcs_bipush_102).trans ?_
    refine (rn_ic_eq d_M_isLetter_9 (t := 24) (by decide)).trans (zif ?_ ?_)
    · refine (rn_push d_M_isLetter_24 zcs_iconst_1).trans ?_
      refine (rn_goto d_M_isLetter_25 (t := 29) (by decide)).trans ?_
      exact rn_rz d_M_isLetter_29 rfl (by decide)
    · refine (rn_ld d_M_isLetter_12 rfl rfl rfl rfl).trans ?_
      refine (rn_push d_M_isLetter_13 zcs_bipush_99).trans ?_
      refine (rn_ic_eq d_M_isLetter_15 (t := 24) (by decide)).trans (zif ?_ ?_)
      · refine (rn_push d_M_isLetter_24 zcs_iconst_1).trans ?_
        refine (rn_goto d_M_isLetter_25 (t := 29) (by decide)).trans ?_
        exact rn_rz d_M_isLetter_29 rfl (by decide)
      · refine (rn_ld d_M_isLetter_18 rfl rfl rfl rfl).trans ?_
        refine (rn_push d_M_isLetter_19 zcs_bipush_110).trans ?_
        refine (rn_ic_ne d_M_isLetter_21 (t := 28) (by decide)).trans (zif ?_ ?_)
        · refine (rn_push d_M_isLetter_24 zcs_iconst_1).trans ?_
          refine (rn_goto d_M_isLetter_25 (t := 29) (by decide)).trans ?_
          exact rn_rz d_M_isLetter_29 rfl (by decide)
        · refine (rn_push d_M_isLetter_28 zcs_iconst_0).trans ?_
          exact rn_rz d_M_isLetter_29 rfl (by decide)
theorem e_M_readNumbers {X : zX} {x1 : Int32} {x2 : Int32} {h : zH} : zcf X m_M_readNumbers [.ref 123, .int x1, .int x2] h = (zbI (zcf X m_M_readDigits [.ref 123, .int (if x1 = 110 then (2 : Int32) else 1)] h) fun v3 h2 => (if zin x2 196 = true then (if x1 = 112 then (zbI (zcf X m_M_readDigits [.ref 123, .int 1] ((zup h2.1 133 (Int32.toNatClampNeg x2) v3), h2.2)) fun v5 h4 => (if zin (x2 + 1) 196 = true then (zbI (zcf X m_M_readDigits [.ref 123, .int 2] ((zup h4.1 133 (Int32.toNatClampNeg (x2 + 1)) v5), h4.2)) fun v7 h6 => (if zin (x2 + 2) 196 = true then (zbI (zcf X m_M_readDigits [.ref 123, .int 1] ((zup h6.1 133 (Int32.toNatClampNeg (x2 + 2)) v7), h6.2)) fun v9 h8 => (if zin (x2 + 3) 196 = true then (some (none, ((zup h8.1 133 (Int32.toNatClampNeg (x2 + 3)) v9), h8.2))) else none)) else none)) else none)) else (if x1 = 110 then (some (none, ((zup h2.1 133 (Int32.toNatClampNeg x2) v3), h2.2))) else (zbI (zcf X m_M_readDigits [.ref 123, .int (if x1 = 102 then (1 : Int32) else 2)] ((zup h2.1 133 (Int32.toNatClampNeg x2) v3), h2.2)) fun v12 h11 => (if zin (x2 + 1) 196 = true then (some (none, ((zup h11.1 133 (Int32.toNatClampNeg (x2 + 1)) v12), h11.2))) else none)))) else none)) := by
  refine (zcf_run (Nat.le_of_ble_eq_true rfl)).trans ?_
  show zrn X 2 m_M_readNumbers 0 [some (.ref 123), some (.int x1), some (.int x2)] [] h = _
  refine (rn_ld d_M_readNumbers_0 rfl rfl rfl rfl).trans ?_
  refine (rn_gr d_M_readNumbers_1 f_4_37 zc_123 zr_123_18).trans ?_
  refine (rn_ld d_M_readNumbers_4 rfl rfl rfl rfl).trans ?_
  refine (rn_ld d_M_readNumbers_5 rfl rfl rfl rfl).trans ?_
  refine (rn_ld d_M_readNumbers_6 rfl rfl rfl rfl).trans ?_
  refine (rn_push d_M_readNumbers_7 zcs_bipush_110).trans ?_
  refine Eq.trans (b := zrn X 2 m_M_readNumbers 17 [some (.ref 123), some (.int x1), some (.int x2)] [.int (if x1 = 110 then (2 : Int32) else 1), .ref 123, .int x2, .ref 133] h) ?_ ?_
  · refine (rn_ic_ne d_M_readNumbers_9 (t := 16) (by decide)).trans ?_
    by_cases q1 : x1 = 110
    · simp only [if_pos q1]
      refine (rn_push d_M_readNumbers_12 zcs_iconst_2).trans ?_
      refine (rn_goto d_M_readNumbers_13 (t := 17) (by decide)).trans ?_
      all_goals rfl
    · simp only [if_neg q1]
      refine (rn_push d_M_readNumbers_16 zcs_iconst_1).trans ?_
      all_goals rfl
  refine (rn_vI d_M_readNumbers_17 (zinv_v l_4_144 (by decide) (Nat.le_of_ble_eq_true rfl) rfl rfl zc_123 (Nat.le_of_ble_eq_true rfl)) (Nat.le_of_ble_eq_true rfl) (Or.inl rfl)).trans (zbI_congr fun v3 h2 => ?_)
  refine (rn_ias d_M_readNumbers_20 zc_133).trans (zif ?_ rfl)
  refine (rn_ld d_M_readNumbers_21 rfl rfl rfl rfl).trans ?_
  refine (rn_push d_M_readNumbers_22 zcs_bipush_112).trans ?_
  refine (rn_ic_ne d_M_readNumbers_24 (t := 69) (by decide)).trans (zif ?_ ?_)
  · refine (rn_ld d_M_readNumbers_27 rfl rfl rfl rfl).trans ?_
    refine (rn_gr d_M_readNumbers_28 f_4_37 zc_123 zr_123_18).trans ?_
    refine (rn_ld d_M_readNumbers_31 rfl rfl rfl rfl).trans ?_
    refine (rn_push d_M_readNumbers_32 zcs_iconst_1).trans ?_
    refine (rn_a2 d_M_readNumbers_33 rfl).trans ?_
    refine (rn_ld d_M_readNumbers_34 rfl rfl rfl rfl).trans ?_
    refine (rn_push d_M_readNumbers_35 zcs_iconst_1).trans ?_
    refine (rn_vI d_M_readNumbers_36 (zinv_v l_4_144 (by decide) (Nat.le_of_ble_eq_true rfl) rfl rfl zc_123 (Nat.le_of_ble_eq_true rfl)) (Nat.le_of_ble_eq_true rfl) (Or.inl rfl)).trans (zbI_congr fun v5 h4 => ?_)
    refine (rn_ias d_M_readNumbers_39 zc_133).trans (zif ?_ rfl)
    refine (rn_ld d_M_readNumbers_40 rfl rfl rfl rfl).trans ?_
    refine (rn_gr d_M_readNumbers_41 f_4_37 zc_123 zr_123_18).trans ?_
    refine (rn_ld d_M_readNumbers_44 rfl rfl rfl rfl).trans ?_
    refine (rn_push d_M_readNumbers_45 zcs_iconst_2).trans ?_
    refine (rn_a2 d_M_readNumbers_46 rfl).trans ?_
    refine (rn_ld d_M_readNumbers_47 rfl rfl rfl rfl).trans ?_
    refine (rn_push d_M_readNumbers_48 zcs_iconst_2).trans ?_
    refine (rn_vI d_M_readNumbers_49 (zinv_v l_4_144 (by decide) (Nat.le_of_ble_eq_true rfl) rfl rfl zc_123 (Nat.le_of_ble_eq_true rfl)) (Nat.le_of_ble_eq_true rfl) (Or.inl rfl)).trans (zbI_congr fun v7 h6 => ?_)
    refine (rn_ias d_M_readNumbers_52 zc_133).trans (zif ?_ rfl)
    refine (rn_ld d_M_readNumbers_53 rfl rfl rfl rfl).trans ?_
    refine (rn_gr d_M_readNumbers_54 f_4_37 zc_123 zr_123_18).trans ?_
    refine (rn_ld d_M_readNumbers_57 rfl rfl rfl rfl).trans ?_
    refine (rn_push d_M_readNumbers_58 zcs_iconst_3).trans ?_
    refine (rn_a2 d_M_readNumbers_59 rfl).trans ?_
    refine (rn_ld d_M_readNumbers_60 rfl rfl rfl rfl).trans ?_
    refine (rn_push d_M_readNumbers_61 zcs_iconst_1).trans ?_
    refine (rn_vI d_M_readNumbers_62 (zinv_v l_4_144 (by decide) (Nat.le_of_ble_eq_true rfl) rfl rfl zc_123 (Nat.le_of_ble_eq_true rfl)) (Nat.le_of_ble_eq_true rfl) (Or.inl rfl)).trans (zbI_congr fun v9 h8 => ?_)
    refine (rn_ias d_M_readNumbers_65 zc_133).trans (zif ?_ rfl)
    refine (rn_goto d_M_readNumbers_66 (t := 98) (by decide)).trans ?_
    exact rn_rv d_M_readNumbers_98 rfl
  · refine (rn_ld d_M_readNumbers_69 rfl rfl rfl rfl).trans ?_
    refine (rn_push d_M_readNumbers_70 zcs_bipush_110).trans ?_
    refine (rn_ic_eq d_M_readNumbers_72 (t := 98) (by decide)).trans (zif ?_ ?_)
    · exact rn_rv d_M_readNumbers_98 rfl
    · refine (rn_ld d_M_readNumbers_75 rfl rfl rfl rfl).trans ?_
      refine (rn_gr d_M_readNumbers_76 f_4_37 zc_123 zr_123_18).trans ?_
      refine (rn_ld d_M_readNumbers_79 rfl rfl rfl rfl).trans ?_
      refine (rn_push d_M_readNumbers_80 zcs_iconst_1).trans ?_
      refine (rn_a2 d_M_readNumbers_81 rfl).trans ?_
      refine (rn_ld d_M_readNumbers_82 rfl rfl rfl rfl).trans ?_
      refine (rn_ld d_M_readNumbers_83 rfl rfl rfl rfl).trans ?_
      refine (rn_push d_M_readNumbers_84 zcs_bipush_102).trans ?_
      refine Eq.trans (b := zrn X 2 m_M_readNumbers 94 [some (.ref 123), some (.int x1), some (.int x2)] [.int (if x1 = 102 then (1 : Int32) else 2), .ref 123, .int (x2 + 1), .ref 133] ((zup h2.1 133 (Int32.toNatClampNeg x2) v3), h2.2)) ?_ ?_
      · refine (rn_ic_ne d_M_readNumbers_86 (t := 93) (by decide)).trans ?_
        by_cases q10 : x1 = 102
        · simp only [if_pos q10]
          refine (rn_push d_M_readNumbers_89 zcs_iconst_1).trans ?_
          refine (rn_goto d_M_readNumbers_90 (t := 94) (by decide)).trans ?_
          all_goals rfl
        · simp only [if_neg q10]
          refine (rn_push d_M_readNumbers_93 zcs_iconst_2).trans ?_
          all_goals rfl
      refine (rn_vI d_M_readNumbers_94 (zinv_v l_4_144 (by decide) (Nat.le_of_ble_eq_true rfl) rfl rfl zc_123 (Nat.le_of_ble_eq_true rfl)) (Nat.le_of_ble_eq_true rfl) (Or.inl rfl)).trans (zbI_congr fun v12 h11 => ?_)
      refine (rn_ias d_M_readNumbers_97 zc_133).trans (zif ?_ rfl)
      exact rn_rv d_M_readNumbers_98 rfl
theorem b_M_readDigits_4 {X : zX} {x1 : Int32} {x2 : Int32} {x3 : Int32} {h : zH} : zrn X 1 m_M_readDigits 4 [some (.ref 123), some (.int x1), some (.int x2), some (.int x3)] [] h = (if x1 ≤ x3 then (some (some (.int x2), h)) else (if (h.1 123 14) = 0 then (zbI (zcf X m_M_here [.ref 123] h) fun v2 h1 => (zbI (zcf X m_M_in [.long (Int32.toInt64 v2), .long 48, .long 57] h1) fun v4 h3 => (if ((zup h3.1 123 14 (if v4 = 0 then (1 : Int32) else 0)) 123 14) = 0 then (if zin ((zup h3.1 123 14 (if v4 = 0 then (1 : Int32) else 0)) 123 13) 96 = true then zrn X 1 m_M_readDigits 4 [some (.ref 123), some (.int x1), some (.int (((10 * x2) + ((zup h3.1 123 14 (if v4 = 0 then (1 : Int32) else 0)) 130 (Int32.toNatClampNeg ((zup h3.1 123 14 (if v4 = 0 then (1 : Int32) else 0)) 123 13)))) - 48)), some (.int (x3 + 1))] [] ((zup (zup h3.1 123 14 (if v4 = 0 then (1 : Int32) else 0)) 123 13 (((zup h3.1 123 14 (if v4 = 0 then (1 : Int32) else 0)) 123 13) + (if ((zup h3.1 123 14 (if v4 = 0 then (1 : Int32) else 0)) 123 14) = 0 then (1 : Int32) else 0))), h3.2) else none) else zrn X 1 m_M_readDigits 4 [some (.ref 123), some (.int x1), some (.int 0), some (.int (x3 + 1))] [] ((zup (zup h3.1 123 14 (if v4 = 0 then (1 : Int32) else 0)) 123 13 (((zup h3.1 123 14 (if v4 = 0 then (1 : Int32) else 0)) 123 13) + (if ((zup h3.1 123 14 (if v4 = 0 then (1 : Int32) else 0)) 123 14) = 0 then (1 : Int32) else 0))), h3.2)))) else (if ((zup h.1 123 14 1) 123 14) = 0 then (if zin ((zup h.1 123 14 1) 123 13) 96 = true then zrn X 1 m_M_readDigits 4 [some (.ref 123), some (.int x1), some (.int (((10 * x2) + ((zup h.1 123 14 1) 130 (Int32.toNatClampNeg ((zup h.1 123 14 1) 123 13)))) - 48)), some (.int (x3 + 1))] [] ((zup (zup h.1 123 14 1) 123 13 (((zup h.1 123 14 1) 123 13) + (if ((zup h.1 123 14 1) 123 14) = 0 then (1 : Int32) else 0))), h.2) else none) else zrn X 1 m_M_readDigits 4 [some (.ref 123), some (.int x1), some (.int 0), some (.int (x3 + 1))] [] ((zup (zup h.1 123 14 1) 123 13 (((zup h.1 123 14 1) 123 13) + (if ((zup h.1 123 14 1) 123 14) = 0 then (1 : Int32) else 0))), h.2)))) := by
  refine (rn_ld d_M_readDigits_4 rfl rfl rfl rfl).trans ?_
  refine (rn_ld d_M_readDigits_5 rfl rfl rfl rfl).trans ?_
  refine (rn_ic_ge d_M_readDigits_6 (t := 98) (by decide)).trans (zif ?_ ?_)
  · refine (rn_ld d_M_readDigits_98 rfl rfl rfl rfl).trans ?_
    exact rn_ri d_M_readDigits_99 rfl
  · refine (rn_ld d_M_readDigits_9 rfl rfl rfl rfl).trans ?_
    refine (rn_ld d_M_readDigits_10 rfl rfl rfl rfl).trans ?_
    refine (rn_gz d_M_readDigits_11 f_4_132 zc_123).trans ?_
    refine (rn_if_ne d_M_readDigits_14 (t := 34) (by decide)).trans (zif ?_ ?_)
    · refine (rn_ld d_M_readDigits_17 rfl rfl rfl rfl).trans ?_
      refine (rn_vI d_M_readDigits_18 (zinv_v l_4_136 (by decide) (Nat.le_of_ble_eq_true rfl) rfl rfl zc_123 (Nat.le_of_ble_eq_true rfl)) (Nat.le_of_ble_eq_true rfl) (Or.inl rfl)).trans (zbI_congr fun v2 h1 => ?_)
      refine (rn_i2l d_M_readDigits_21).trans ?_
      refine (rn_push d_M_readDigits_22 zcs_ldc2_4_140).trans ?_
      refine (rn_push d_M_readDigits_25 zcs_ldc2_4_142).trans ?_
      refine (rn_sI d_M_readDigits_28 nb_4_68 (zinv_s l_4_68 (by decide) (Nat.le_of_ble_eq_true rfl) rfl rfl (Nat.le_of_ble_eq_true rfl)) (Nat.le_of_ble_eq_true rfl) (Or.inr rfl)).trans (zbI_congr fun v4 h3 => ?_)
      refine Eq.trans (b := zrn X 1 m_M_readDigits 39 [some (.ref 123), some (.int x1), some (.int x2), some (.int x3)] [.int (if v4 = 0 then (1 : Int32) else 0), .ref 123] h3) ?_ ?_
      · refine (rn_if_ne d_M_readDigits_31 (t := 38) (by decide)).trans ?_
        by_cases q5 : v4 = 0
        · simp only [if_pos q5]
          refine (rn_push d_M_readDigits_34 zcs_iconst_1).trans ?_
          refine (rn_goto d_M_readDigits_35 (t := 39) (by decide)).trans ?_
          all_goals rfl
        · simp only [if_neg q5]
          refine (rn_push d_M_readDigits_38 zcs_iconst_0).trans ?_
          all_goals rfl
      refine (rn_pz d_M_readDigits_39 f_4_132 zc_123 (by (repeat' split) <;> decide)).trans ?_
      refine (rn_ld d_M_readDigits_42 rfl rfl rfl rfl).trans ?_
      refine (rn_gz d_M_readDigits_43 f_4_132 zc_123).trans ?_
      refine (rn_if_eq d_M_readDigits_46 (t := 53) (by decide)).trans (zif ?_ ?_)
      · refine (rn_push d_M_readDigits_53 zcs_bipush_10).trans ?_
        refine (rn_ld d_M_readDigits_55 rfl rfl rfl rfl).trans ?_
        refine (rn_a2 d_M_readDigits_56 rfl).trans ?_
        refine (rn_ld d_M_readDigits_57 rfl rfl rfl rfl).trans ?_
        refine (rn_gr d_M_readDigits_58 f_4_28 zc_123 zr_123_11).trans ?_
        refine (rn_ld d_M_readDigits_61 rfl rfl rfl rfl).trans ?_
        refine (rn_gi d_M_readDigits_62 f_4_129 zc_123).trans ?_
        refine (rn_ial d_M_readDigits_65 (by decide) zc_130).trans (zif ?_ rfl)
        refine (rn_a2 d_M_readDigits_66 rfl).trans ?_
        refine (rn_push d_M_readDigits_67 zcs_bipush_48).trans ?_
        refine (rn_a2 d_M_readDigits_69 rfl).trans ?_
        refine (rn_st d_M_readDigits_70 rfl rfl rfl (by decide) rfl (Nat.le_of_ble_eq_true rfl) (ls' := [some (.ref 123), some (.int x1), some (.int (((10 * x2) + ((zup h3.1 123 14 (if v4 = 0 then (1 : Int32) else 0)) 130 (Int32.toNatClampNeg ((zup h3.1 123 14 (if v4 = 0 then (1 : Int32) else 0)) 123 13)))) - 48)), some (.int x3)]) rfl).trans ?_
        refine (rn_ld d_M_readDigits_71 rfl rfl rfl rfl).trans ?_
        refine (rn_dup d_M_readDigits_72 rfl).trans ?_
        refine (rn_gi d_M_readDigits_73 f_4_129 zc_123).trans ?_
        refine (rn_ld d_M_readDigits_76 rfl rfl rfl rfl).trans ?_
        refine (rn_gz d_M_readDigits_77 f_4_132 zc_123).trans ?_
        refine Eq.trans (b := zrn X 1 m_M_readDigits 88 [some (.ref 123), some (.int x1), some (.int (((10 * x2) + ((zup h3.1 123 14 (if v4 = 0 then (1 : Int32) else 0)) 130 (Int32.toNatClampNeg ((zup h3.1 123 14 (if v4 = 0 then (1 : Int32) else 0)) 123 13)))) - 48)), some (.int x3)] [.int (if ((zup h3.1 123 14 (if v4 = 0 then (1 : Int32) else 0)) 123 14) = 0 then (1 : Int32) else 0), .int ((zup h3.1 123 14 (if v4 = 0 then (1 : Int32) else 0)) 123 13), .ref 123] ((zup h3.1 123 14 (if v4 = 0 then (1 : Int32) else 0)), h3.2)) ?_ ?_
        · refine (rn_if_eq d_M_readDigits_80 (t := 87) (by decide)).trans ?_
          by_cases q6 : ((zup h3.1 123 14 (if v4 = 0 then (1 : Int32) else 0)) 123 14) = 0
          · simp only [if_pos q6]
            refine (rn_push d_M_readDigits_87 zcs_iconst_1).trans ?_
            all_goals rfl
          · simp only [if_neg q6]
            refine (rn_push d_M_readDigits_83 zcs_iconst_0).trans ?_
            refine (rn_goto d_M_readDigits_84 (t := 88) (by decide)).trans ?_
            all_goals rfl
        refine (rn_a2 d_M_readDigits_88 rfl).trans ?_
        refine (rn_pi d_M_readDigits_89 f_4_129 zc_123).trans ?_
        refine (rn_inc d_M_readDigits_92 rfl (c := 1) (by decide) (ls' := [some (.ref 123), some (.int x1), some (.int (((10 * x2) + ((zup h3.1 123 14 (if v4 = 0 then (1 : Int32) else 0)) 130 (Int32.toNatClampNeg ((zup h3.1 123 14 (if v4 = 0 then (1 : Int32) else 0)) 123 13)))) - 48)), some (.int (x3 + 1))]) rfl).trans ?_
        refine (rn_goto d_M_readDigits_95 (t := 4) (by decide)).trans ?_
        rfl
      · refine (rn_push d_M_readDigits_49 zcs_iconst_0).trans ?_
        refine (rn_goto d_M_readDigits_50 (t := 70) (by decide)).trans ?_
        refine (rn_st d_M_readDigits_70 rfl rfl rfl (by decide) rfl (Nat.le_of_ble_eq_true rfl) (ls' := [some (.ref 123), some (.int x1), some (.int 0), some (.int x3)]) rfl).trans ?_
        refine (rn_ld d_M_readDigits_71 rfl rfl rfl rfl).trans ?_
        refine (rn_dup d_M_readDigits_72 rfl).trans ?_
        refine (rn_gi d_M_readDigits_73 f_4_129 zc_123).trans ?_
        refine (rn_ld d_M_readDigits_76 rfl rfl rfl rfl).trans ?_
        refine (rn_gz d_M_readDigits_77 f_4_132 zc_123).trans ?_
        refine Eq.trans (b := zrn X 1 m_M_readDigits 88 [some (.ref 123), some (.int x1), some (.int 0), some (.int x3)] [.int (if ((zup h3.1 123 14 (if v4 = 0 then (1 : Int32) else 0)) 123 14) = 0 then (1 : Int32) else 0), .int ((zup h3.1 123 14 (if v4 = 0 then (1 : Int32) else 0)) 123 13), .ref 123] ((zup h3.1 123 14 (if v4 = 0 then (1 : Int32) else 0)), h3.2)) ?_ ?_
        · refine (rn_if_eq d_M_readDigits_80 (t := 87) (by decide)).trans ?_
          by_cases q7 : ((zup h3.1 123 14 (if v4 = 0 then (1 : Int32) else 0)) 123 14) = 0
          · simp only [if_pos q7]
            refine (rn_push d_M_readDigits_87 zcs_iconst_1).trans ?_
            all_goals rfl
          · simp only [if_neg q7]
            refine (rn_push d_M_readDigits_83 zcs_iconst_0).trans ?_
            refine (rn_goto d_M_readDigits_84 (t := 88) (by decide)).trans ?_
            all_goals rfl
        refine (rn_a2 d_M_readDigits_88 rfl).trans ?_
        refine (rn_pi d_M_readDigits_89 f_4_129 zc_123).trans ?_
        refine (rn_inc d_M_readDigits_92 rfl (c := 1) (by decide) (ls' := [some (.ref 123), some (.int x1), some (.int 0), some (.int (x3 + 1))]) rfl).trans ?_
        refine (rn_goto d_M_readDigits_95 (t := 4) (by decide)).trans ?_
        rfl
    · refine (rn_push d_M_readDigits_34 zcs_iconst_1).trans ?_
      refine (rn_goto d_M_readDigits_35 (t := 39) (by decide)).trans ?_
      refine (rn_pz d_M_readDigits_39 f_4_132 zc_123 (by decide)).trans ?_
      refine (rn_ld d_M_readDigits_42 rfl rfl rfl rfl).trans ?_
      refine (rn_gz d_M_readDigits_43 f_4_132 zc_123).trans ?_
      refine (rn_if_eq d_M_readDigits_46 (t := 53) (by decide)).trans (zif ?_ ?_)
      · refine (rn_push d_M_readDigits_53 zcs_bipush_10).trans ?_
        refine (rn_ld d_M_readDigits_55 rfl rfl rfl rfl).trans ?_
        refine (rn_a2 d_M_readDigits_56 rfl).trans ?_
        refine (rn_ld d_M_readDigits_57 rfl rfl rfl rfl).trans ?_
        refine (rn_gr d_M_readDigits_58 f_4_28 zc_123 zr_123_11).trans ?_
        refine (rn_ld d_M_readDigits_61 rfl rfl rfl rfl).trans ?_
        refine (rn_gi d_M_readDigits_62 f_4_129 zc_123).trans ?_
        refine (rn_ial d_M_readDigits_65 (by decide) zc_130).trans (zif ?_ rfl)
        refine (rn_a2 d_M_readDigits_66 rfl).trans ?_
        refine (rn_push d_M_readDigits_67 zcs_bipush_48).trans ?_
        refine (rn_a2 d_M_readDigits_69 rfl).trans ?_
        refine (rn_st d_M_readDigits_70 rfl rfl rfl (by decide) rfl (Nat.le_of_ble_eq_true rfl) (ls' := [some (.ref 123), some (.int x1), some (.int (((10 * x2) + ((zup h.1 123 14 1) 130 (Int32.toNatClampNeg ((zup h.1 123 14 1) 123 13)))) - 48)), some (.int x3)]) rfl).trans ?_
        refine (rn_ld d_M_readDigits_71 rfl rfl rfl rfl).trans ?_
        refine (rn_dup d_M_readDigits_72 rfl).trans ?_
        refine (rn_gi d_M_readDigits_73 f_4_129 zc_123).trans ?_
        refine (rn_ld d_M_readDigits_76 rfl rfl rfl rfl).trans ?_
        refine (rn_gz d_M_readDigits_77 f_4_132 zc_123).trans ?_
        refine Eq.trans (b := zrn X 1 m_M_readDigits 88 [some (.ref 123), some (.int x1), some (.int (((10 * x2) + ((zup h.1 123 14 1) 130 (Int32.toNatClampNeg ((zup h.1 123 14 1) 123 13)))) - 48)), some (.int x3)] [.int (if ((zup h.1 123 14 1) 123 14) = 0 then (1 : Int32) else 0), .int ((zup h.1 123 14 1) 123 13), .ref 123] ((zup h.1 123 14 1), h.2)) ?_ ?_
        · refine (rn_if_eq d_M_readDigits_80 (t := 87) (by decide)).trans ?_
          by_cases q8 : ((zup h.1 123 14 1) 123 14) = 0
          · simp only [if_pos q8]
            refine (rn_push d_M_readDigits_87 zcs_iconst_1).trans ?_
            all_goals rfl
          · simp only [if_neg q8]
            refine (rn_push d_M_readDigits_83 zcs_iconst_0).trans ?_
            refine (rn_goto d_M_readDigits_84 (t := 88) (by decide)).trans ?_
            all_goals rfl
        refine (rn_a2 d_M_readDigits_88 rfl).trans ?_
        refine (rn_pi d_M_readDigits_89 f_4_129 zc_123).trans ?_
        refine (rn_inc d_M_readDigits_92 rfl (c := 1) (by decide) (ls' := [some (.ref 123), some (.int x1), some (.int (((10 * x2) + ((zup h.1 123 14 1) 130 (Int32.toNatClampNeg ((zup h.1 123 14 1) 123 13)))) - 48)), some (.int (x3 + 1))]) rfl).trans ?_
        refine (rn_goto d_M_readDigits_95 (t := 4) (by decide)).trans ?_
        rfl
      · refine (rn_push d_M_readDigits_49 zcs_iconst_0).trans ?_
        refine (rn_goto d_M_readDigits_50 (t := 70) (by decide)).trans ?_
        refine (rn_st d_M_readDigits_70 rfl rfl rfl (by decide) rfl (Nat.le_of_ble_eq_true rfl) (ls' := [some (.ref 123), some (.int x1), some (.int 0), some (.int x3)]) rfl).trans ?_
        refine (rn_ld d_M_readDigits_71 rfl rfl rfl rfl).trans ?_
        refine (rn_dup d_M_readDigits_72 rfl).trans ?_
        refine (rn_gi d_M_readDigits_73 f_4_129 zc_123).trans ?_
        refine (rn_ld d_M_readDigits_76 rfl rfl rfl rfl).trans ?_
        refine (rn_gz d_M_readDigits_77 f_4_132 zc_123).trans ?_
        refine Eq.trans (b := zrn X 1 m_M_readDigits 88 [some (.ref 123), some (.int x1), some (.int 0), some (.int x3)] [.int (if ((zup h.1 123 14 1) 123 14) = 0 then (1 : Int32) else 0), .int ((zup h.1 123 14 1) 123 13), .ref 123] ((zup h.1 123 14 1), h.2)) ?_ ?_
        · refine (rn_if_eq d_M_readDigits_80 (t := 87) (by decide)).trans ?_
          by_cases q9 : ((zup h.1 123 14 1) 123 14) = 0
          · simp only [if_pos q9]
            refine (rn_push d_M_readDigits_87 zcs_iconst_1).trans ?_
            all_goals rfl
          · simp only [if_neg q9]
            refine (rn_push d_M_readDigits_83 zcs_iconst_0).trans ?_
            refine (rn_goto d_M_readDigits_84 (t := 88) (by decide)).trans ?_
            all_goals rfl
        refine (rn_a2 d_M_readDigits_88 rfl).trans ?_
        refine (rn_pi d_M_readDigits_89 f_4_129 zc_123).trans ?_
        refine (rn_inc d_M_readDigits_92 rfl (c := 1) (by decide) (ls' := [some (.ref 123), some (.int x1), some (.int 0), some (.int (x3 + 1))]) rfl).trans ?_
        refine (rn_goto d_M_readDigits_95 (t := 4) (by decide)).trans ?_
        rfl
theorem e_M_readDigits {X : zX} {x1 : Int32} {h : zH} : zcf X m_M_readDigits [.ref 123, .int x1] h = zrn X 1 m_M_readDigits 4 [some (.ref 123), some (.int x1), some (.int 0), some (.int 0)] [] h := by
  refine (zcf_run (Nat.le_of_ble_eq_true rfl)).trans ?_
  show zrn X 1 m_M_readDigits 0 [some (.ref 123), some (.int x1), none, none] [] h = _
  refine (rn_push d_M_readDigits_0 zcs_iconst_0).trans ?_
  refine (rn_st d_M_readDigits_1 rfl rfl rfl (by decide) rfl (Nat.le_of_ble_eq_true rfl) (ls' := [some (.ref 123), some (.int x1), some (.int 0), none]) rfl).trans ?_
  refine (rn_push d_M_readDigits_2 zcs_iconst_0).trans ?_
  refine (rn_st d_M_readDigits_3 rfl rfl rfl (by decide) rfl (Nat.le_of_ble_eq_true rfl) (ls' := [some (.ref 123), some (.int x1), some (.int 0), some (.int 0)]) rfl).trans ?_
  rfl
theorem e_M_in {X : zX} {x0 : Int64} {x2 : Int64} {x4 : Int64} {h : zH} : zcf X m_M_in [.long x0, .long x2, .long x4] h = (if (lg_cmp x0 x2) < 0 then (some (some (.int 0), h)) else (if 0 < (lg_cmp x0 x4) then (some (some (.int 0), h)) else (some (some (.int 1), h)))) := by
  refine (zcf_run (Nat.le_of_ble_eq_true rfl)).trans ?_
  show zrn X 0 m_M_in 0 [some (.long x0), none, some (.long x2), none, some (.long x4), none] [] h = _
  refine (rn_ld d_M_in_0 rfl rfl rfl rfl).trans ?_
  refine (rn_ld d_M_in_1 rfl rfl rfl rfl).trans ?_
  refine (rn_lcmp d_M_in_2).trans ?_
  refine (rn_if_lt d_M_in_3 (t := 17) (by decide)).trans (zif ?_ ?_)
  · refine (rn_push d_M_in_17 zcs_iconst_0).trans ?_
    exact rn_rz d_M_in_18 rfl (by decide)
  · refine (rn_ld d_M_in_6 rfl rfl rfl rfl).trans ?_
    refine (rn_ld d_M_in_7 rfl rfl rfl rfl).trans ?_
    refine (rn_lcmp d_M_in_9).trans ?_
    refine (rn_if_gt d_M_in_10 (t := 17) (by decide)).trans (zif ?_ ?_)
    · refine (rn_push d_M_in_17 zcs_iconst_0).trans ?_
      exact rn_rz d_M_in_18 rfl (by decide)
    · refine (rn_push d_M_in_13 zcs_iconst_1).trans ?_
      refine (rn_goto d_M_in_14 (t := 18) (by decide)).trans ?_
      exact rn_rz d_M_in_18 rfl (by decide)
theorem e_M_think {X : zX} {h : zH} : zcf X m_M_think [.ref 123] h = (zbV (zcf X m_M_carryAll [.ref 123, .ref 134, .int 1] h) fun h1 => (some (none, h1))) := by
  refine (zcf_run (Nat.le_of_ble_eq_true rfl)).trans ?_
  show zrn X 2 m_M_think 0 [some (.ref 123)] [] h = _
  refine (rn_ld d_M_think_0 rfl rfl rfl rfl).trans ?_
  refine (rn_ld d_M_think_1 rfl rfl rfl rfl).trans ?_
  refine (rn_gr d_M_think_2 f_4_40 zc_123 zr_123_19).trans ?_
  refine (rn_push d_M_think_5 zcs_iconst_1).trans ?_
  refine (rn_vV d_M_think_6 (zinv_v l_4_192 (by decide) (Nat.le_of_ble_eq_true rfl) rfl rfl zc_123 (Nat.le_of_ble_eq_true rfl)) (Nat.le_of_ble_eq_true rfl) rfl).trans (zbV_congr fun h1 => ?_)
  exact rn_rv d_M_think_9 rfl
theorem b_M_carryAll_41 {X : zX} {b1 n1 : Nat} {x2 : Int32} {x3 : Int32} {h : zH} (A1 : zcl 140 (b1 + 1) = (0, n1)) (B2 : x2 = 0 ∨ x2 = 1) : zrn X 1 m_M_carryAll 41 [some (.ref 123), some (.ref (b1 + 1)), some (.int x2), some (.int x3)] [] h = (if 7 ≤ x3 then (some (none, h)) else (if zin x3 7 = true then (zbI (zcf X m_M_carry [.ref 123, .int (h.1 124 (Int32.toNatClampNeg x3))] h) fun v2 h1 => (if zin x3 7 = true then (if zin x3 7 = true then (zbI (zcf X m_M_carry [.ref 123, .int ((zup h1.1 124 (Int32.toNatClampNeg x3) v2) 125 (Int32.toNatClampNeg x3))] ((zup h1.1 124 (Int32.toNatClampNeg x3) v2), h1.2)) fun v4 h3 => (if zin x3 7 = true then (if zin x3 7 = true then (zbI (zcf X m_M_carry [.ref 123, .int ((zup h3.1 125 (Int32.toNatClampNeg x3) v4) 126 (Int32.toNatClampNeg x3))] ((zup h3.1 125 (Int32.toNatClampNeg x3) v4), h3.2)) fun v6 h5 => (if zin x3 7 = true then (if zin x3 7 = true then (zbI (zcf X m_M_carry [.ref 123, .int ((zup h5.1 126 (Int32.toNatClampNeg x3) v6) 127 (Int32.toNatClampNeg x3))] ((zup h5.1 126 (Int32.toNatClampNeg x3) v6), h5.2)) fun v8 h7 => (if zin x3 7 = true then (if zin x3 7 = true then (zbI (zcf X m_M_carry [.ref 123, .int ((zup h7.1 127 (Int32.toNatClampNeg x3) v8) 128 (Int32.toNatClampNeg x3))] ((zup h7.1 127 (Int32.toNatClampNeg x3) v8), h7.2)) fun v10 h9 => (if zin x3 7 = true then zrn X 1 m_M_carryAll 41 [some (.ref 123), some (.ref (b1 + 1)), some (.int x2), some (.int (x3 + 1))] [] ((zup h9.1 128 (Int32.toNatClampNeg x3) v10), h9.2) else none)) else none) else none)) else none) else none)) else none) else none)) else none) else none)) else none)) := by
  refine (rn_ld d_M_carryAll_41 rfl rfl rfl rfl).trans ?_
  refine (rn_push d_M_carryAll_42 zcs_bipush_7).trans ?_
  refine (rn_ic_ge d_M_carryAll_44 (t := 133) (by decide)).trans (zif ?_ ?_)
  · exact rn_rv d_M_carryAll_133 rfl
  · refine (rn_ld d_M_carryAll_47 rfl rfl rfl rfl).trans ?_
    refine (rn_gr d_M_carryAll_48 f_4_7 zc_123 zr_123_1).trans ?_
    refine (rn_ld d_M_carryAll_51 rfl rfl rfl rfl).trans ?_
    refine (rn_ld d_M_carryAll_52 rfl rfl rfl rfl).trans ?_
    refine (rn_ld d_M_carryAll_53 rfl rfl rfl rfl).trans ?_
    refine (rn_gr d_M_carryAll_54 f_4_7 zc_123 zr_123_1).trans ?_
    refine (rn_ld d_M_carryAll_57 rfl rfl rfl rfl).trans ?_
    refine (rn_ial d_M_carryAll_58 (by decide) zc_124).trans (zif ?_ rfl)
    refine (rn_vI d_M_carryAll_59 (zinv_v l_4_189 (by decide) (Nat.le_of_ble_eq_true rfl) rfl rfl zc_123 (Nat.le_of_ble_eq_true rfl)) (Nat.le_of_ble_eq_true rfl) (Or.inl rfl)).trans (zbI_congr fun v2 h1 => ?_)
    refine (rn_ias d_M_carryAll_62 zc_124).trans (zif ?_ rfl)
    refine (rn_ld d_M_carryAll_63 rfl rfl rfl rfl).trans ?_
    refine (rn_gr d_M_carryAll_64 f_4_13 zc_123 zr_123_2).trans ?_
    refine (rn_ld d_M_carryAll_67 rfl rfl rfl rfl).trans ?_
    refine (rn_ld d_M_carryAll_68 rfl rfl rfl rfl).trans ?_
    refine (rn_ld d_M_carryAll_69 rfl rfl rfl rfl).trans ?_
    refine (rn_gr d_M_carryAll_70 f_4_13 zc_123 zr_123_2).trans ?_
    refine (rn_ld d_M_carryAll_73 rfl rfl rfl rfl).trans ?_
    refine (rn_ial d_M_carryAll_74 (by decide) zc_125).trans (zif ?_ rfl)
    refine (rn_vI d_M_carryAll_75 (zinv_v l_4_189 (by decide) (Nat.le_of_ble_eq_true rfl) rfl rfl zc_123 (Nat.le_of_ble_eq_true rfl)) (Nat.le_of_ble_eq_true rfl) (Or.inl rfl)).trans (zbI_congr fun v4 h3 => ?_)
    refine (rn_ias d_M_carryAll_78 zc_125).trans (zif ?_ rfl)
    refine (rn_ld d_M_carryAll_79 rfl rfl rfl rfl).trans ?_
    refine (rn_gr d_M_carryAll_80 f_4_16 zc_123 zr_123_3).trans ?_
    refine (rn_ld d_M_carryAll_83 rfl rfl rfl rfl).trans ?_
    refine (rn_ld d_M_carryAll_84 rfl rfl rfl rfl).trans ?_
    refine (rn_ld d_M_carryAll_85 rfl rfl rfl rfl).trans ?_
    refine (rn_gr d_M_carryAll_86 f_4_16 zc_123 zr_123_3).trans ?_
    refine (rn_ld d_M_carryAll_89 rfl rfl rfl rfl).trans ?_
    refine (rn_ial d_M_carryAll_90 (by decide) zc_126).trans (zif ?_ rfl)
    refine (rn_vI d_M_carryAll_91 (zinv_v l_4_189 (by decide) (Nat.le_of_ble_eq_true rfl) rfl rfl zc_123 (Nat.le_of_ble_eq_true rfl)) (Nat.le_of_ble_eq_true rfl) (Or.inl rfl)).trans (zbI_congr fun v6 h5 => ?_)
    refine (rn_ias d_M_carryAll_94 zc_126).trans (zif ?_ rfl)
    refine (rn_ld d_M_carryAll_95 rfl rfl rfl rfl).trans ?_
    refine (rn_gr d_M_carryAll_96 f_4_19 zc_123 zr_123_4).trans ?_
    refine (rn_ld d_M_carryAll_99 rfl rfl rfl rfl).trans ?_
    refine (rn_ld d_M_carryAll_100 rfl rfl rfl rfl).trans ?_
    refine (rn_ld d_M_carryAll_101 rfl rfl rfl rfl).trans ?_
    refine (rn_gr d_M_carryAll_102 f_4_19 zc_123 zr_123_4).trans ?_
    refine (rn_ld d_M_carryAll_105 rfl rfl rfl rfl).trans ?_
    refine (rn_ial d_M_carryAll_106 (by decide) zc_127).trans (zif ?_ rfl)
    refine (rn_vI d_M_carryAll_107 (zinv_v l_4_189 (by decide) (Nat.le_of_ble_eq_true rfl) rfl rfl zc_123 (Nat.le_of_ble_eq_true rfl)) (Nat.le_of_ble_eq_true rfl) (Or.inl rfl)).trans (zbI_congr fun v8 h7 => ?_)
    refine (rn_ias d_M_carryAll_110 zc_127).trans (zif ?_ rfl)
    refine (rn_ld d_M_carryAll_111 rfl rfl rfl rfl).trans ?_
    refine (rn_gr d_M_carryAll_112 f_4_22 zc_123 zr_123_5).trans ?_
    refine (rn_ld d_M_carryAll_115 rfl rfl rfl rfl).trans ?_
    refine (rn_ld d_M_carryAll_116 rfl rfl rfl rfl).trans ?_
    refine (rn_ld d_M_carryAll_117 rfl rfl rfl rfl).trans ?_
    refine (rn_gr d_M_carryAll_118 f_4_22 zc_123 zr_123_5).trans ?_
    refine (rn_ld d_M_carryAll_121 rfl rfl rfl rfl).trans ?_
    refine (rn_ial d_M_carryAll_122 (by decide) zc_128).trans (zif ?_ rfl)
    refine (rn_vI d_M_carryAll_123 (zinv_v l_4_189 (by decide) (Nat.le_of_ble_eq_true rfl) rfl rfl zc_123 (Nat.le_of_ble_eq_true rfl)) (Nat.le_of_ble_eq_true rfl) (Or.inl rfl)).trans (zbI_congr fun v10 h9 => ?_)
    refine (rn_ias d_M_carryAll_126 zc_128).trans (zif ?_ rfl)
    refine (rn_inc d_M_carryAll_127 rfl (c := 1) (by decide) (ls' := [some (.ref 123), some (.ref (b1 + 1)), some (.int x2), some (.int (x3 + 1))]) rfl).trans ?_
    refine (rn_goto d_M_carryAll_130 (t := 41) (by decide)).trans ?_
    rfl
theorem e_M_carryAll {X : zX} {b1 n1 : Nat} {x2 : Int32} {h : zH} (A1 : zcl 140 (b1 + 1) = (0, n1)) (B2 : x2 = 0 ∨ x2 = 1) : zcf X m_M_carryAll [.ref 123, .ref (b1 + 1), .int x2] h = (zbI (zcf X m_M_carry [.ref 123, .int ((zup (zup h.1 123 23 x2) 123 22 0) 123 0)] ((zup (zup h.1 123 23 x2) 123 22 0), (b1 + 1))) fun v2 h1 => (zbI (zcf X m_M_carry [.ref 123, .int ((zup h1.1 123 0 v2) 123 6)] ((zup h1.1 123 0 v2), h1.2)) fun v4 h3 => zrn X 1 m_M_carryAll 41 [some (.ref 123), some (.ref (b1 + 1)), some (.int x2), some (.int 0)] [] ((zup h3.1 123 6 v4), h3.2))) := by
  refine (zcf_run (Nat.le_of_ble_eq_true rfl)).trans ?_
  show zrn X 1 m_M_carryAll 0 [some (.ref 123), some (.ref (b1 + 1)), some (.int x2), none] [] h = _
  refine (rn_ld d_M_carryAll_0 rfl rfl rfl rfl).trans ?_
  refine (rn_ld d_M_carryAll_1 rfl rfl rfl rfl).trans ?_
  refine (rn_pk d_M_carryAll_2 f_4_183 zc_123).trans ?_
  refine (rn_ld d_M_carryAll_5 rfl rfl rfl rfl).trans ?_
  refine (rn_ld d_M_carryAll_6 rfl rfl rfl rfl).trans ?_
  refine (rn_pz d_M_carryAll_7 f_4_180 zc_123 B2).trans ?_
  refine (rn_ld d_M_carryAll_10 rfl rfl rfl rfl).trans ?_
  refine (rn_push d_M_carryAll_11 zcs_iconst_0).trans ?_
  refine (rn_pi d_M_carryAll_12 f_4_186 zc_123).trans ?_
  refine (rn_ld d_M_carryAll_15 rfl rfl rfl rfl).trans ?_
  refine (rn_ld d_M_carryAll_16 rfl rfl rfl rfl).trans ?_
  refine (rn_ld d_M_carryAll_17 rfl rfl rfl rfl).trans ?_
  refine (rn_gi d_M_carryAll_18 f_4_65 zc_123).trans ?_
  refine (rn_vI d_M_carryAll_21 (zinv_v l_4_189 (by decide) (Nat.le_of_ble_eq_true rfl) rfl rfl zc_123 (Nat.le_of_ble_eq_true rfl)) (Nat.le_of_ble_eq_true rfl) (Or.inl rfl)).trans (zbI_congr fun v2 h1 => ?_)
  refine (rn_pi d_M_carryAll_24 f_4_65 zc_123).trans ?_
  refine (rn_ld d_M_carryAll_27 rfl rfl rfl rfl).trans ?_
  refine (rn_ld d_M_carryAll_28 rfl rfl rfl rfl).trans ?_
  refine (rn_ld d_M_carryAll_29 rfl rfl rfl rfl).trans ?_
  refine (rn_gi d_M_carryAll_30 f_4_107 zc_123).trans ?_
  refine (rn_vI d_M_carryAll_33 (zinv_v l_4_189 (by decide) (Nat.le_of_ble_eq_true rfl) rfl rfl zc_123 (Nat.le_of_ble_eq_true rfl)) (Nat.le_of_ble_eq_true rfl) (Or.inl rfl)).trans (zbI_congr fun v4 h3 => ?_)
  refine (rn_pi d_M_carryAll_36 f_4_107 zc_123).trans ?_
  refine (rn_push d_M_carryAll_39 zcs_iconst_0).trans ?_
  refine (rn_st d_M_carryAll_40 rfl rfl rfl (by decide) rfl (Nat.le_of_ble_eq_true rfl) (ls' := [some (.ref 123), some (.ref (b1 + 1)), some (.int x2), some (.int 0)]) rfl).trans ?_
  rfl
theorem e_M_carry {X : zX} {x1 : Int32} {q : Nat} {h : zH} (KQ : h.2 = q + 1) (AQ : zcl 140 (q + 1) = (0, 37)) : zcf X m_M_carry [.ref 123, .int x1] h = (if (h.1 123 23) = 0 then (if zin (((zup h.1 123 22 ((h.1 123 22) + 1)) 123 22) - 1) 37 = true then (some (some (.int ((zup h.1 123 22 ((h.1 123 22) + 1)) (q + 1) (Int32.toNatClampNeg (((zup h.1 123 22 ((h.1 123 22) + 1)) 123 22) - 1)))), ((zup h.1 123 22 ((h.1 123 22) + 1)), h.2))) else none) else (if zin (h.1 123 22) 37 = true then (if zin (((zup (zup h.1 (q + 1) (Int32.toNatClampNeg (h.1 123 22)) x1) 123 22 (((zup h.1 (q + 1) (Int32.toNatClampNeg (h.1 123 22)) x1) 123 22) + 1)) 123 22) - 1) 37 = true then (some (some (.int ((zup (zup h.1 (q + 1) (Int32.toNatClampNeg (h.1 123 22)) x1) 123 22 (((zup h.1 (q + 1) (Int32.toNatClampNeg (h.1 123 22)) x1) 123 22) + 1)) (q + 1) (Int32.toNatClampNeg (((zup (zup h.1 (q + 1) (Int32.toNatClampNeg (h.1 123 22)) x1) 123 22 (((zup h.1 (q + 1) (Int32.toNatClampNeg (h.1 123 22)) x1) 123 22) + 1)) 123 22) - 1)))), ((zup (zup h.1 (q + 1) (Int32.toNatClampNeg (h.1 123 22)) x1) 123 22 (((zup h.1 (q + 1) (Int32.toNatClampNeg (h.1 123 22)) x1) 123 22) + 1)), h.2))) else none) else none)) := by
  refine (zcf_run (Nat.le_of_ble_eq_true rfl)).trans ?_
  show zrn X 0 m_M_carry 0 [some (.ref 123), some (.int x1)] [] h = _
  refine (rn_ld d_M_carry_0 rfl rfl rfl rfl).trans ?_
  refine (rn_gz d_M_carry_1 f_4_180 zc_123).trans ?_
  refine (rn_if_eq d_M_carry_4 (t := 17) (by decide)).trans (zif ?_ ?_)
  · refine (rn_ld d_M_carry_17 rfl rfl rfl rfl).trans ?_
    refine (rn_dup d_M_carry_18 rfl).trans ?_
    refine (rn_gi d_M_carry_19 f_4_186 zc_123).trans ?_
    refine (rn_push d_M_carry_22 zcs_iconst_1).trans ?_
    refine (rn_a2 d_M_carry_23 rfl).trans ?_
    refine (rn_pi d_M_carry_24 f_4_186 zc_123).trans ?_
    refine (rn_ld d_M_carry_27 rfl rfl rfl rfl).trans ?_
    refine (rn_gk (h := ((zup h.1 123 22 ((h.1 123 22) + 1)), h.2)) d_M_carry_28 f_4_183 zc_123 KQ).trans ?_
    refine (rn_ld d_M_carry_31 rfl rfl rfl rfl).trans ?_
    refine (rn_gi d_M_carry_32 f_4_186 zc_123).trans ?_
    refine (rn_push d_M_carry_35 zcs_iconst_1).trans ?_
    refine (rn_a2 d_M_carry_36 rfl).trans ?_
    refine (rn_ial d_M_carry_37 (Nat.succ_pos _) AQ).trans (zif ?_ rfl)
    exact rn_ri d_M_carry_38 rfl
  · refine (rn_ld d_M_carry_7 rfl rfl rfl rfl).trans ?_
    refine (rn_gk (h := h) d_M_carry_8 f_4_183 zc_123 KQ).trans ?_
    refine (rn_ld d_M_carry_11 rfl rfl rfl rfl).trans ?_
    refine (rn_gi d_M_carry_12 f_4_186 zc_123).trans ?_
    refine (rn_ld d_M_carry_15 rfl rfl rfl rfl).trans ?_
    refine (rn_ias d_M_carry_16 AQ).trans (zif ?_ rfl)
    refine (rn_ld d_M_carry_17 rfl rfl rfl rfl).trans ?_
    refine (rn_dup d_M_carry_18 rfl).trans ?_
    refine (rn_gi d_M_carry_19 f_4_186 zc_123).trans ?_
    refine (rn_push d_M_carry_22 zcs_iconst_1).trans ?_
    refine (rn_a2 d_M_carry_23 rfl).trans ?_
    refine (rn_pi d_M_carry_24 f_4_186 zc_123).trans ?_
    refine (rn_ld d_M_carry_27 rfl rfl rfl rfl).trans ?_
    refine (rn_gk (h := ((zup (zup h.1 (q + 1) (Int32.toNatClampNeg (h.1 123 22)) x1) 123 22 (((zup h.1 (q + 1) (Int32.toNatClampNeg (h.1 123 22)) x1) 123 22) + 1)), h.2)) d_M_carry_28 f_4_183 zc_123 KQ).trans ?_
    refine (rn_ld d_M_carry_31 rfl rfl rfl rfl).trans ?_
    refine (rn_gi d_M_carry_32 f_4_186 zc_123).trans ?_
    refine (rn_push d_M_carry_35 zcs_iconst_1).trans ?_
    refine (rn_a2 d_M_carry_36 rfl).trans ?_
    refine (rn_ial d_M_carry_37 (Nat.succ_pos _) AQ).trans (zif ?_ rfl)
    exact rn_ri d_M_carry_38 rfl
theorem e_M_comesTold {X : zX} {x1 : Int32} {h : zH} : zcf X m_M_comesTold [.ref 123, .int x1] h = (if zin (4 * x1) 196 = true then (if zin ((4 * x1) + 1) 196 = true then (if zin ((4 * x1) + 2) 196 = true then (if zin ((4 * x1) + 3) 196 = true then (if zin x1 49 = true then (if (h.1 132 (Int32.toNatClampNeg x1)) = 99 then (zbI (zcf X m_M_isOne [.ref 123, .int (h.1 133 (Int32.toNatClampNeg (4 * x1)))] h) fun v3 h2 => (if v3 = 0 then (some (some (.int 0), h2)) else (if 36 ≤ (h.1 133 (Int32.toNatClampNeg ((4 * x1) + 1))) then (some (some (.int 0), h2)) else (zbI (zcf X m_M_oneIn [.ref 123, .int (h.1 133 (Int32.toNatClampNeg ((4 * x1) + 1)))] h2) fun v5 h4 => (if (if 0 ≤ v5 then (0 : Int32) else 1) = 0 then (some (some (.int (if 0 ≤ v5 then (0 : Int32) else 1)), h4)) else (if zin (h.1 133 (Int32.toNatClampNeg (4 * x1))) 7 = true then (some (some (.int (if 0 ≤ v5 then (0 : Int32) else 1)), ((zup h4.1 126 (Int32.toNatClampNeg (h.1 133 (Int32.toNatClampNeg (4 * x1)))) (h.1 133 (Int32.toNatClampNeg ((4 * x1) + 1)))), h4.2))) else none)))))) else (if (h.1 132 (Int32.toNatClampNeg x1)) = 102 then (zbI (zcf X m_M_isOne [.ref 123, .int (h.1 133 (Int32.toNatClampNeg (4 * x1)))] h) fun v9 h8 => (if (if v9 = 0 then (0 : Int32) else (if 4 ≤ (h.1 133 (Int32.toNatClampNeg ((4 * x1) + 1))) then (0 : Int32) else 1)) = 0 then (some (some (.int (if v9 = 0 then (0 : Int32) else (if 4 ≤ (h.1 133 (Int32.toNatClampNeg ((4 * x1) + 1))) then (0 : Int32) else 1))), h8)) else (if zin (h.1 133 (Int32.toNatClampNeg (4 * x1))) 7 = true then (some (some (.int (if v9 = 0 then (0 : Int32) else (if 4 ≤ (h.1 133 (Int32.toNatClampNeg ((4 * x1) + 1))) then (0 : Int32) else 1))), ((zup h8.1 127 (Int32.toNatClampNeg (h.1 133 (Int32.toNatClampNeg (4 * x1)))) (h.1 133 (Int32.toNatClampNeg ((4 * x1) + 1)))), h8.2))) else none))) else (if (h.1 132 (Int32.toNatClampNeg x1)) = 112 then (if 6 ≤ (h.1 133 (Int32.toNatClampNeg (4 * x1))) then (some (some (.int 0), h)) else (if 36 ≤ (h.1 133 (Int32.toNatClampNeg ((4 * x1) + 2))) then (some (some (.int 0), h)) else (if 4 ≤ (h.1 133 (Int32.toNatClampNeg ((4 * x1) + 3))) then (some (some (.int 0), h)) else (if 6 ≤ (h.1 123 0) then (some (some (.int 0), h)) else (zbI (zcf X m_M_oneIn [.ref 123, .int (h.1 133 (Int32.toNatClampNeg ((4 * x1) + 2)))] h) fun v14 h13 => (if (if 0 ≤ v14 then (0 : Int32) else 1) = 0 then (some (some (.int (if 0 ≤ v14 then (0 : Int32) else 1)), h13)) else (zbV (zcf X m_M_oneComes [.ref 123, .int (h.1 133 (Int32.toNatClampNeg (4 * x1))), .int (h.1 133 (Int32.toNatClampNeg ((4 * x1) + 1))), .int (h.1 133 (Int32.toNatClampNeg ((4 * x1) + 2))), .int (h.1 133 (Int32.toNatClampNeg ((4 * x1) + 3)))] h13) fun h16 => (some (some (.int (if 0 ≤ v14 then (0 : Int32) else 1)), h16))))))))) else (zbI (zcf X m_M_in [.long (Int32.toInt64 (h.1 133 (Int32.toNatClampNeg (4 * x1)))), .long 1, .long 60] h) fun v18 h17 => (if (if v18 = 0 then (0 : Int32) else (if 999 < ((h17.1 123 6) + (h.1 133 (Int32.toNatClampNeg (4 * x1)))) then (0 : Int32) else 1)) = 0 then (some (some (.int (if v18 = 0 then (0 : Int32) else (if 999 < ((h17.1 123 6) + (h.1 133 (Int32.toNatClampNeg (4 * x1)))) then (0 : Int32) else 1))), h17)) else (zbV (zcf X m_M_goNights [.ref 123, .int (h.1 133 (Int32.toNatClampNeg (4 * x1)))] h17) fun h21 => (some (some (.int (if v18 = 0 then (0 : Int32) else (if 999 < ((h17.1 123 6) + (h.1 133 (Int32.toNatClampNeg (4 * x1)))) then (0 : Int32) else 1))), h21)))))))) else none) else none) else none) else none) else none) := by
  refine (zcf_run (Nat.le_of_ble_eq_true rfl)).trans ?_
  show zrn X 7 m_M_comesTold 0 [some (.ref 123), some (.int x1), none, none, none, none, none] [] h = _
  refine (rn_ld d_M_comesTold_0 rfl rfl rfl rfl).trans ?_
  refine (rn_gr d_M_comesTold_1 f_4_37 zc_123 zr_123_18).trans ?_
  refine (rn_push d_M_comesTold_4 zcs_iconst_4).trans ?_
  refine (rn_ld d_M_comesTold_5 rfl rfl rfl rfl).trans ?_
  refine (rn_a2 d_M_comesTold_6 rfl).trans ?_
  refine (rn_ial d_M_comesTold_7 (by decide) zc_133).trans (zif ?_ rfl)
  refine (rn_st d_M_comesTold_8 rfl rfl rfl (by decide) rfl (Nat.le_of_ble_eq_true rfl) (ls' := [some (.ref 123), some (.int x1), some (.int (h.1 133 (Int32.toNatClampNeg (4 * x1)))), none, none, none, none]) rfl).trans ?_
  refine (rn_ld d_M_comesTold_9 rfl rfl rfl rfl).trans ?_
  refine (rn_gr d_M_comesTold_10 f_4_37 zc_123 zr_123_18).trans ?_
  refine (rn_push d_M_comesTold_13 zcs_iconst_4).trans ?_
  refine (rn_ld d_M_comesTold_14 rfl rfl rfl rfl).trans ?_
  refine (rn_a2 d_M_comesTold_15 rfl).trans ?_
  refine (rn_push d_M_comesTold_16 zcs_iconst_1).trans ?_
  refine (rn_a2 d_M_comesTold_17 rfl).trans ?_
  refine (rn_ial d_M_comesTold_18 (by decide) zc_133).trans (zif ?_ rfl)
  refine (rn_st d_M_comesTold_19 rfl rfl rfl (by decide) rfl (Nat.le_of_ble_eq_true rfl) (ls' := [some (.ref 123), some (.int x1), some (.int (h.1 133 (Int32.toNatClampNeg (4 * x1)))), some (.int (h.1 133 (Int32.toNatClampNeg ((4 * x1) + 1)))), none, none, none]) rfl).trans ?_
  refine (rn_ld d_M_comesTold_20 rfl rfl rfl rfl).trans ?_
  refine (rn_gr d_M_comesTold_21 f_4_37 zc_123 zr_123_18).trans ?_
  refine (rn_push d_M_comesTold_24 zcs_iconst_4).trans ?_
  refine (rn_ld d_M_comesTold_25 rfl rfl rfl rfl).trans ?_
  refine (rn_a2 d_M_comesTold_26 rfl).trans ?_
  refine (rn_push d_M_comesTold_27 zcs_iconst_2).trans ?_
  refine (rn_a2 d_M_comesTold_28 rfl).trans ?_
  refine (rn_ial d_M_comesTold_29 (by decide) zc_133).trans (zif ?_ rfl)
  refine (rn_st d_M_comesTold_30 rfl rfl rfl (by decide) rfl (Nat.le_of_ble_eq_true rfl) (ls' := [some (.ref 123), some (.int x1), some (.int (h.1 133 (Int32.toNatClampNeg (4 * x1)))), some (.int (h.1 133 (Int32.toNatClampNeg ((4 * x1) + 1)))), some (.int (h.1 133 (Int32.toNatClampNeg ((4 * x1) + 2)))), none, none]) rfl).trans ?_
  refine (rn_ld d_M_comesTold_32 rfl rfl rfl rfl).trans ?_
  refine (rn_gr d_M_comesTold_33 f_4_37 zc_123 zr_123_18).trans ?_
  refine (rn_push d_M_comesTold_36 zcs_iconst_4).trans ?_
  refine (rn_ld d_M_comesTold_37 rfl rfl rfl rfl).trans ?_
  refine (rn_a2 d_M_comesTold_38 rfl).trans ?_
  refine (rn_push d_M_comesTold_39 zcs_iconst_3).trans ?_
  refine (rn_a2 d_M_comesTold_40 rfl).trans ?_
  refine (rn_ial d_M_comesTold_41 (by decide) zc_133).trans (zif ?_ rfl)
  refine (rn_st d_M_comesTold_42 rfl rfl rfl (by decide) rfl (Nat.le_of_ble_eq_true rfl) (ls' := [some (.ref 123), some (.int x1), some (.int (h.1 133 (Int32.toNatClampNeg (4 * x1)))), some (.int (h.1 133 (Int32.toNatClampNeg ((4 * x1) + 1)))), some (.int (h.1 133 (Int32.toNatClampNeg ((4 * x1) + 2)))), some (.int (h.1 133 (Int32.toNatClampNeg ((4 * x1) + 3)))), none]) rfl).trans ?_
  refine (rn_push d_M_comesTold_44 zcs_iconst_1).trans ?_
  refine (rn_st d_M_comesTold_45 rfl rfl rfl (by decide) rfl (Nat.le_of_ble_eq_true rfl) (ls' := [some (.ref 123), some (.int x1), some (.int (h.1 133 (Int32.toNatClampNeg (4 * x1)))), some (.int (h.1 133 (Int32.toNatClampNeg ((4 * x1) + 1)))), some (.int (h.1 133 (Int32.toNatClampNeg ((4 * x1) + 2)))), some (.int (h.1 133 (Int32.toNatClampNeg ((4 * x1) + 3)))), some (.int 1)]) rfl).trans ?_
  refine (rn_ld d_M_comesTold_47 rfl rfl rfl rfl).trans ?_
  refine (rn_gr d_M_comesTold_48 f_4_34 zc_123 zr_123_17).trans ?_
  refine (rn_ld d_M_comesTold_51 rfl rfl rfl rfl).trans ?_
  refine (rn_ial d_M_comesTold_52 (by decide) zc_132).trans (zif ?_ rfl)
  refine zite (fun q1 => ?_) (fun q1 => ?_)
  · refine (rn_lsw d_M_comesTold_53 (t := 185) (by rw [q1]; decide +kernel)).trans ?_
    refine (rn_ld d_M_comesTold_185 rfl rfl rfl rfl).trans ?_
    refine (rn_ld d_M_comesTold_186 rfl rfl rfl rfl).trans ?_
    refine (rn_vI d_M_comesTold_187 (zinv_v l_4_72 (by decide) (Nat.le_of_ble_eq_true rfl) rfl rfl zc_123 (Nat.le_of_ble_eq_true rfl)) (Nat.le_of_ble_eq_true rfl) (Or.inr rfl)).trans (zbI_congr fun v3 h2 => ?_)
    refine (rn_if_eq d_M_comesTold_190 (t := 211) (by decide)).trans (zif ?_ ?_)
    · refine (rn_push d_M_comesTold_211 zcs_iconst_0).trans ?_
      refine (rn_st d_M_comesTold_212 rfl rfl rfl (by decide) rfl (Nat.le_of_ble_eq_true rfl) (ls' := [some (.ref 123), some (.int x1), some (.int (h.1 133 (Int32.toNatClampNeg (4 * x1)))), some (.int (h.1 133 (Int32.toNatClampNeg ((4 * x1) + 1)))), some (.int (h.1 133 (Int32.toNatClampNeg ((4 * x1) + 2)))), some (.int (h.1 133 (Int32.toNatClampNeg ((4 * x1) + 3)))), some (.int 0)]) rfl).trans ?_
      refine (rn_ld d_M_comesTold_214 rfl rfl rfl rfl).trans ?_
      refine ((rn_if_eq d_M_comesTold_216 (t := 226) (by decide)).trans (if_pos (by decide))).trans ?_
      refine (rn_ld d_M_comesTold_226 rfl rfl rfl rfl).trans ?_
      exact rn_rz d_M_comesTold_228 rfl (by decide)
    · refine (rn_ld d_M_comesTold_193 rfl rfl rfl rfl).trans ?_
      refine (rn_push d_M_comesTold_194 zcs_bipush_36).trans ?_
      refine (rn_ic_ge d_M_comesTold_196 (t := 211) (by decide)).trans (zif ?_ ?_)
      · refine (rn_push d_M_comesTold_211 zcs_iconst_0).trans ?_
        refine (rn_st d_M_comesTold_212 rfl rfl rfl (by decide) rfl (Nat.le_of_ble_eq_true rfl) (ls' := [some (.ref 123), some (.int x1), some (.int (h.1 133 (Int32.toNatClampNeg (4 * x1)))), some (.int (h.1 133 (Int32.toNatClampNeg ((4 * x1) + 1)))), some (.int (h.1 133 (Int32.toNatClampNeg ((4 * x1) + 2)))), some (.int (h.1 133 (Int32.toNatClampNeg ((4 * x1) + 3)))), some (.int 0)]) rfl).trans ?_
        refine (rn_ld d_M_comesTold_214 rfl rfl rfl rfl).trans ?_
        refine ((rn_if_eq d_M_comesTold_216 (t := 226) (by decide)).trans (if_pos (by decide))).trans ?_
        refine (rn_ld d_M_comesTold_226 rfl rfl rfl rfl).trans ?_
        exact rn_rz d_M_comesTold_228 rfl (by decide)
      · refine (rn_ld d_M_comesTold_199 rfl rfl rfl rfl).trans ?_
        refine (rn_ld d_M_comesTold_200 rfl rfl rfl rfl).trans ?_
        refine (rn_vI d_M_comesTold_201 (zinv_v l_4_84 (by decide) (Nat.le_of_ble_eq_true rfl) rfl rfl zc_123 (Nat.le_of_ble_eq_true rfl)) (Nat.le_of_ble_eq_true rfl) (Or.inl rfl)).trans (zbI_congr fun v5 h4 => ?_)
        refine Eq.trans (b := zrn X 7 m_M_comesTold 212 [some (.ref 123), some (.int x1), some (.int (h.1 133 (Int32.toNatClampNeg (4 * x1)))), some (.int (h.1 133 (Int32.toNatClampNeg ((4 * x1) + 1)))), some (.int (h.1 133 (Int32.toNatClampNeg ((4 * x1) + 2)))), some (.int (h.1 133 (Int32.toNatClampNeg ((4 * x1) + 3)))), some (.int 1)] [.int (if 0 ≤ v5 then (0 : Int32) else 1)] h4) ?_ ?_
        · refine (rn_if_ge d_M_comesTold_204 (t := 211) (by decide)).trans ?_
          by_cases q6 : 0 ≤ v5
          · simp only [if_pos q6]
            refine (rn_push d_M_comesTold_211 zcs_iconst_0).trans ?_
            all_goals rfl
          · simp only [if_neg q6]
            refine (rn_push d_M_comesTold_207 zcs_iconst_1).trans ?_
            refine (rn_goto d_M_comesTold_208 (t := 212) (by decide)).trans ?_
            all_goals rfl
        refine (rn_st d_M_comesTold_212 rfl rfl rfl (by decide) rfl (Nat.le_of_ble_eq_true rfl) (ls' := [some (.ref 123), some (.int x1), some (.int (h.1 133 (Int32.toNatClampNeg (4 * x1)))), some (.int (h.1 133 (Int32.toNatClampNeg ((4 * x1) + 1)))), some (.int (h.1 133 (Int32.toNatClampNeg ((4 * x1) + 2)))), some (.int (h.1 133 (Int32.toNatClampNeg ((4 * x1) + 3)))), some (.int (if 0 ≤ v5 then (0 : Int32) else 1))]) rfl).trans ?_
        refine (rn_ld d_M_comesTold_214 rfl rfl rfl rfl).trans ?_
        refine (rn_if_eq d_M_comesTold_216 (t := 226) (by decide)).trans (zif ?_ ?_)
        · refine (rn_ld d_M_comesTold_226 rfl rfl rfl rfl).trans ?_
          exact rn_rz d_M_comesTold_228 rfl (by (repeat' split) <;> decide)
        · refine (rn_ld d_M_comesTold_219 rfl rfl rfl rfl).trans ?_
          refine (rn_gr d_M_comesTold_220 f_4_16 zc_123 zr_123_3).trans ?_
          refine (rn_ld d_M_comesTold_223 rfl rfl rfl rfl).trans ?_
          refine (rn_ld d_M_comesTold_224 rfl rfl rfl rfl).trans ?_
          refine (rn_ias d_M_comesTold_225 zc_126).trans (zif ?_ rfl)
          refine (rn_ld d_M_comesTold_226 rfl rfl rfl rfl).trans ?_
          exact rn_rz d_M_comesTold_228 rfl (by (repeat' split) <;> decide)
  · refine zite (fun q7 => ?_) (fun q7 => ?_)
    · refine (rn_lsw d_M_comesTold_53 (t := 150) (by rw [q7]; decide +kernel)).trans ?_
      refine (rn_ld d_M_comesTold_150 rfl rfl rfl rfl).trans ?_
      refine (rn_ld d_M_comesTold_151 rfl rfl rfl rfl).trans ?_
      refine (rn_vI d_M_comesTold_152 (zinv_v l_4_72 (by decide) (Nat.le_of_ble_eq_true rfl) rfl rfl zc_123 (Nat.le_of_ble_eq_true rfl)) (Nat.le_of_ble_eq_true rfl) (Or.inr rfl)).trans (zbI_congr fun v9 h8 => ?_)
      refine Eq.trans (b := zrn X 7 m_M_comesTold 168 [some (.ref 123), some (.int x1), some (.int (h.1 133 (Int32.toNatClampNeg (4 * x1)))), some (.int (h.1 133 (Int32.toNatClampNeg ((4 * x1) + 1)))), some (.int (h.1 133 (Int32.toNatClampNeg ((4 * x1) + 2)))), some (.int (h.1 133 (Int32.toNatClampNeg ((4 * x1) + 3)))), some (.int 1)] [.int (if v9 = 0 then (0 : Int32) else (if 4 ≤ (h.1 133 (Int32.toNatClampNeg ((4 * x1) + 1))) then (0 : Int32) else 1))] h8) ?_ ?_
      · refine (rn_if_eq d_M_comesTold_155 (t := 167) (by decide)).trans ?_
        by_cases q10 : v9 = 0
        · simp only [if_pos q10]
          refine (rn_push d_M_comesTold_167 zcs_iconst_0).trans ?_
          all_goals rfl
        · simp only [if_neg q10]
          refine (rn_ld d_M_comesTold_158 rfl rfl rfl rfl).trans ?_
          refine (rn_push d_M_comesTold_159 zcs_iconst_4).trans ?_
          refine (rn_ic_ge d_M_comesTold_160 (t := 167) (by decide)).trans ?_
          by_cases q11 : 4 ≤ (h.1 133 (Int32.toNatClampNeg ((4 * x1) + 1)))
          · simp only [if_pos q11]
            refine (rn_push d_M_comesTold_167 zcs_iconst_0).trans ?_
            all_goals rfl
          · simp only [if_neg q11]
            refine (rn_push d_M_comesTold_163 zcs_iconst_1).trans ?_
            refine (rn_goto d_M_comesTold_164 (t := 168) (by decide)).trans ?_
            all_goals rfl
      refine (rn_st d_M_comesTold_168 rfl rfl rfl (by decide) rfl (Nat.le_of_ble_eq_true rfl) (ls' := [some (.ref 123), some (.int x1), some (.int (h.1 133 (Int32.toNatClampNeg (4 * x1)))), some (.int (h.1 133 (Int32.toNatClampNeg ((4 * x1) + 1)))), some (.int (h.1 133 (Int32.toNatClampNeg ((4 * x1) + 2)))), some (.int (h.1 133 (Int32.toNatClampNeg ((4 * x1) + 3)))), some (.int (if v9 = 0 then (0 : Int32) else (if 4 ≤ (h.1 133 (Int32.toNatClampNeg ((4 * x1) + 1))) then (0 : Int32) else 1)))]) rfl).trans ?_
      refine (rn_ld d_M_comesTold_170 rfl rfl rfl rfl).trans ?_
      refine (rn_if_eq d_M_comesTold_172 (t := 182) (by decide)).trans (zif ?_ ?_)
      · refine (rn_ld d_M_comesTold_182 rfl rfl rfl rfl).trans ?_
        exact rn_rz d_M_comesTold_184 rfl (by (repeat' split) <;> decide)
      · refine (rn_ld d_M_comesTold_175 rfl rfl rfl rfl).trans ?_
        refine (rn_gr d_M_comesTold_176 f_4_19 zc_123 zr_123_4).trans ?_
        refine (rn_ld d_M_comesTold_179 rfl rfl rfl rfl).trans ?_
        refine (rn_ld d_M_comesTold_180 rfl rfl rfl rfl).trans ?_
        refine (rn_ias d_M_comesTold_181 zc_127).trans (zif ?_ rfl)
        refine (rn_ld d_M_comesTold_182 rfl rfl rfl rfl).trans ?_
        exact rn_rz d_M_comesTold_184 rfl (by (repeat' split) <;> decide)
    · refine zite (fun q12 => ?_) (fun q12 => ?_)
      · refine (rn_lsw d_M_comesTold_53 (t := 88) (by rw [q12]; decide +kernel)).trans ?_
        refine (rn_ld d_M_comesTold_88 rfl rfl rfl rfl).trans ?_
        refine (rn_push d_M_comesTold_89 zcs_bipush_6).trans ?_
        refine (rn_ic_ge d_M_comesTold_91 (t := 129) (by decide)).trans (zif ?_ ?_)
        · refine (rn_push d_M_comesTold_129 zcs_iconst_0).trans ?_
          refine (rn_st d_M_comesTold_130 rfl rfl rfl (by decide) rfl (Nat.le_of_ble_eq_true rfl) (ls' := [some (.ref 123), some (.int x1), some (.int (h.1 133 (Int32.toNatClampNeg (4 * x1)))), some (.int (h.1 133 (Int32.toNatClampNeg ((4 * x1) + 1)))), some (.int (h.1 133 (Int32.toNatClampNeg ((4 * x1) + 2)))), some (.int (h.1 133 (Int32.toNatClampNeg ((4 * x1) + 3)))), some (.int 0)]) rfl).trans ?_
          refine (rn_ld d_M_comesTold_132 rfl rfl rfl rfl).trans ?_
          refine ((rn_if_eq d_M_comesTold_134 (t := 147) (by decide)).trans (if_pos (by decide))).trans ?_
          refine (rn_ld d_M_comesTold_147 rfl rfl rfl rfl).trans ?_
          exact rn_rz d_M_comesTold_149 rfl (by decide)
        · refine (rn_ld d_M_comesTold_94 rfl rfl rfl rfl).trans ?_
          refine (rn_push d_M_comesTold_96 zcs_bipush_36).trans ?_
          refine (rn_ic_ge d_M_comesTold_98 (t := 129) (by decide)).trans (zif ?_ ?_)
          · refine (rn_push d_M_comesTold_129 zcs_iconst_0).trans ?_
            refine (rn_st d_M_comesTold_130 rfl rfl rfl (by decide) rfl (Nat.le_of_ble_eq_true rfl) (ls' := [some (.ref 123), some (.int x1), some (.int (h.1 133 (Int32.toNatClampNeg (4 * x1)))), some (.int (h.1 133 (Int32.toNatClampNeg ((4 * x1) + 1)))), some (.int (h.1 133 (Int32.toNatClampNeg ((4 * x1) + 2)))), some (.int (h.1 133 (Int32.toNatClampNeg ((4 * x1) + 3)))), some (.int 0)]) rfl).trans ?_
            refine (rn_ld d_M_comesTold_132 rfl rfl rfl rfl).trans ?_
            refine ((rn_if_eq d_M_comesTold_134 (t := 147) (by decide)).trans (if_pos (by decide))).trans ?_
            refine (rn_ld d_M_comesTold_147 rfl rfl rfl rfl).trans ?_
            exact rn_rz d_M_comesTold_149 rfl (by decide)
          · refine (rn_ld d_M_comesTold_101 rfl rfl rfl rfl).trans ?_
            refine (rn_push d_M_comesTold_103 zcs_iconst_4).trans ?_
            refine (rn_ic_ge d_M_comesTold_104 (t := 129) (by decide)).trans (zif ?_ ?_)
            · refine (rn_push d_M_comesTold_129 zcs_iconst_0).trans ?_
              refine (rn_st d_M_comesTold_130 rfl rfl rfl (by decide) rfl (Nat.le_of_ble_eq_true rfl) (ls' := [some (.ref 123), some (.int x1), some (.int (h.1 133 (Int32.toNatClampNeg (4 * x1)))), some (.int (h.1 133 (Int32.toNatClampNeg ((4 * x1) + 1)))), some (.int (h.1 133 (Int32.toNatClampNeg ((4 * x1) + 2)))), some (.int (h.1 133 (Int32.toNatClampNeg ((4 * x1) + 3)))), some (.int 0)]) rfl).trans ?_
              refine (rn_ld d_M_comesTold_132 rfl rfl rfl rfl).trans ?_
              refine ((rn_if_eq d_M_comesTold_134 (t := 147) (by decide)).trans (if_pos (by decide))).trans ?_
              refine (rn_ld d_M_comesTold_147 rfl rfl rfl rfl).trans ?_
              exact rn_rz d_M_comesTold_149 rfl (by decide)
            · refine (rn_ld d_M_comesTold_107 rfl rfl rfl rfl).trans ?_
              refine (rn_gi d_M_comesTold_108 f_4_65 zc_123).trans ?_
              refine (rn_push d_M_comesTold_111 zcs_bipush_6).trans ?_
              refine (rn_ic_ge d_M_comesTold_113 (t := 129) (by decide)).trans (zif ?_ ?_)
              · refine (rn_push d_M_comesTold_129 zcs_iconst_0).trans ?_
                refine (rn_st d_M_comesTold_130 rfl rfl rfl (by decide) rfl (Nat.le_of_ble_eq_true rfl) (ls' := [some (.ref 123), some (.int x1), some (.int (h.1 133 (Int32.toNatClampNeg (4 * x1)))), some (.int (h.1 133 (Int32.toNatClampNeg ((4 * x1) + 1)))), some (.int (h.1 133 (Int32.toNatClampNeg ((4 * x1) + 2)))), some (.int (h.1 133 (Int32.toNatClampNeg ((4 * x1) + 3)))), some (.int 0)]) rfl).trans ?_
                refine (rn_ld d_M_comesTold_132 rfl rfl rfl rfl).trans ?_
                refine ((rn_if_eq d_M_comesTold_134 (t := 147) (by decide)).trans (if_pos (by decide))).trans ?_
                refine (rn_ld d_M_comesTold_147 rfl rfl rfl rfl).trans ?_
                exact rn_rz d_M_comesTold_149 rfl (by decide)
              · refine (rn_ld d_M_comesTold_116 rfl rfl rfl rfl).trans ?_
                refine (rn_ld d_M_comesTold_117 rfl rfl rfl rfl).trans ?_
                refine (rn_vI d_M_comesTold_119 (zinv_v l_4_84 (by decide) (Nat.le_of_ble_eq_true rfl) rfl rfl zc_123 (Nat.le_of_ble_eq_true rfl)) (Nat.le_of_ble_eq_true rfl) (Or.inl rfl)).trans (zbI_congr fun v14 h13 => ?_)
                refine Eq.trans (b := zrn X 7 m_M_comesTold 130 [some (.ref 123), some (.int x1), some (.int (h.1 133 (Int32.toNatClampNeg (4 * x1)))), some (.int (h.1 133 (Int32.toNatClampNeg ((4 * x1) + 1)))), some (.int (h.1 133 (Int32.toNatClampNeg ((4 * x1) + 2)))), some (.int (h.1 133 (Int32.toNatClampNeg ((4 * x1) + 3)))), some (.int 1)] [.int (if 0 ≤ v14 then (0 : Int32) else 1)] h13) ?_ ?_
                · refine (rn_if_ge d_M_comesTold_122 (t := 129) (by decide)).trans ?_
                  by_cases q15 : 0 ≤ v14
                  · simp only [if_pos q15]
                    refine (rn_push d_M_comesTold_129 zcs_iconst_0).trans ?_
                    all_goals rfl
                  · simp only [if_neg q15]
                    refine (rn_push d_M_comesTold_125 zcs_iconst_1).trans ?_
                    refine (rn_goto d_M_comesTold_126 (t := 130) (by decide)).trans ?_
                    all_goals rfl
                refine (rn_st d_M_comesTold_130 rfl rfl rfl (by decide) rfl (Nat.le_of_ble_eq_true rfl) (ls' := [some (.ref 123), some (.int x1), some (.int (h.1 133 (Int32.toNatClampNeg (4 * x1)))), some (.int (h.1 133 (Int32.toNatClampNeg ((4 * x1) + 1)))), some (.int (h.1 133 (Int32.toNatClampNeg ((4 * x1) + 2)))), some (.int (h.1 133 (Int32.toNatClampNeg ((4 * x1) + 3)))), some (.int (if 0 ≤ v14 then (0 : Int32) else 1))]) rfl).trans ?_
                refine (rn_ld d_M_comesTold_132 rfl rfl rfl rfl).trans ?_
                refine (rn_if_eq d_M_comesTold_134 (t := 147) (by decide)).trans (zif ?_ ?_)
                · refine (rn_ld d_M_comesTold_147 rfl rfl rfl rfl).trans ?_
                  exact rn_rz d_M_comesTold_149 rfl (by (repeat' split) <;> decide)
                · refine (rn_ld d_M_comesTold_137 rfl rfl rfl rfl).trans ?_
                  refine (rn_ld d_M_comesTold_138 rfl rfl rfl rfl).trans ?_
                  refine (rn_ld d_M_comesTold_139 rfl rfl rfl rfl).trans ?_
                  refine (rn_ld d_M_comesTold_140 rfl rfl rfl rfl).trans ?_
                  refine (rn_ld d_M_comesTold_142 rfl rfl rfl rfl).trans ?_
                  refine (rn_vV d_M_comesTold_144 (zinv_v l_4_156 (by decide) (Nat.le_of_ble_eq_true rfl) rfl rfl zc_123 (Nat.le_of_ble_eq_true rfl)) (Nat.le_of_ble_eq_true rfl) rfl).trans (zbV_congr fun h16 => ?_)
                  refine (rn_ld d_M_comesTold_147 rfl rfl rfl rfl).trans ?_
                  exact rn_rz d_M_comesTold_149 rfl (by (repeat' split) <;> decide)
      · refine (rn_lsw d_M_comesTold_53 (t := 229) (by unfold zlw; rw [if_pos (by decide +kernel)]; show ztg _ (Op.lookupswitch.offset [(99, 132), (102, 97), (112, 35)] 176 _) = _; rw [lv_osw (a := 99) (k := 99) q1 (by decide), lv_osw (a := 102) (k := 102) q7 (by decide), lv_osw (a := 112) (k := 112) q12 (by decide)]; show ztg 53 176 = _; decide)).trans ?_
        refine (rn_ld d_M_comesTold_229 rfl rfl rfl rfl).trans ?_
        refine (rn_i2l d_M_comesTold_230).trans ?_
        refine (rn_push d_M_comesTold_231 zcs_lconst_1).trans ?_
        refine (rn_push d_M_comesTold_232 zcs_ldc2_4_160).trans ?_
        refine (rn_sI d_M_comesTold_235 nb_4_68 (zinv_s l_4_68 (by decide) (Nat.le_of_ble_eq_true rfl) rfl rfl (Nat.le_of_ble_eq_true rfl)) (Nat.le_of_ble_eq_true rfl) (Or.inr rfl)).trans (zbI_congr fun v18 h17 => ?_)
        refine Eq.trans (b := zrn X 7 m_M_comesTold 258 [some (.ref 123), some (.int x1), some (.int (h.1 133 (Int32.toNatClampNeg (4 * x1)))), some (.int (h.1 133 (Int32.toNatClampNeg ((4 * x1) + 1)))), some (.int (h.1 133 (Int32.toNatClampNeg ((4 * x1) + 2)))), some (.int (h.1 133 (Int32.toNatClampNeg ((4 * x1) + 3)))), some (.int 1)] [.int (if v18 = 0 then (0 : Int32) else (if 999 < ((h17.1 123 6) + (h.1 133 (Int32.toNatClampNeg (4 * x1)))) then (0 : Int32) else 1))] h17) ?_ ?_
        · refine (rn_if_eq d_M_comesTold_238 (t := 257) (by decide)).trans ?_
          by_cases q19 : v18 = 0
          · simp only [if_pos q19]
            refine (rn_push d_M_comesTold_257 zcs_iconst_0).trans ?_
            all_goals rfl
          · simp only [if_neg q19]
            refine (rn_ld d_M_comesTold_241 rfl rfl rfl rfl).trans ?_
            refine (rn_gi d_M_comesTold_242 f_4_107 zc_123).trans ?_
            refine (rn_ld d_M_comesTold_245 rfl rfl rfl rfl).trans ?_
            refine (rn_a2 d_M_comesTold_246 rfl).trans ?_
            refine (rn_push d_M_comesTold_247 zcs_sipush_999).trans ?_
            refine (rn_ic_gt d_M_comesTold_250 (t := 257) (by decide)).trans ?_
            by_cases q20 : 999 < ((h17.1 123 6) + (h.1 133 (Int32.toNatClampNeg (4 * x1))))
            · simp only [if_pos q20]
              refine (rn_push d_M_comesTold_257 zcs_iconst_0).trans ?_
              all_goals rfl
            · simp only [if_neg q20]
              refine (rn_push d_M_comesTold_253 zcs_iconst_1).trans ?_
              refine (rn_goto d_M_comesTold_254 (t := 258) (by decide)).trans ?_
              all_goals rfl
        refine (rn_st d_M_comesTold_258 rfl rfl rfl (by decide) rfl (Nat.le_of_ble_eq_true rfl) (ls' := [some (.ref 123), some (.int x1), some (.int (h.1 133 (Int32.toNatClampNeg (4 * x1)))), some (.int (h.1 133 (Int32.toNatClampNeg ((4 * x1) + 1)))), some (.int (h.1 133 (Int32.toNatClampNeg ((4 * x1) + 2)))), some (.int (h.1 133 (Int32.toNatClampNeg ((4 * x1) + 3)))), some (.int (if v18 = 0 then (0 : Int32) else (if 999 < ((h17.1 123 6) + (h.1 133 (Int32.toNatClampNeg (4 * x1)))) then (0 : Int32) else 1)))]) rfl).trans ?_
        refine (rn_ld d_M_comesTold_260 rfl rfl rfl rfl).trans ?_
        refine (rn_if_eq d_M_comesTold_262 (t := 270) (by decide)).trans (zif ?_ ?_)
        · refine (rn_ld d_M_comesTold_270 rfl rfl rfl rfl).trans ?_
          exact rn_rz d_M_comesTold_272 rfl (by (repeat' split) <;> decide)
        · refine (rn_ld d_M_comesTold_265 rfl rfl rfl rfl).trans ?_
          refine (rn_ld d_M_comesTold_266 rfl rfl rfl rfl).trans ?_
          refine (rn_vV d_M_comesTold_267 (zinv_v l_4_162 (by decide) (Nat.le_of_ble_eq_true rfl) rfl rfl zc_123 (Nat.le_of_ble_eq_true rfl)) (Nat.le_of_ble_eq_true rfl) rfl).trans (zbV_congr fun h21 => ?_)
          refine (rn_ld d_M_comesTold_270 rfl rfl rfl rfl).trans ?_
          exact rn_rz d_M_comesTold_272 rfl (by (repeat' split) <;> decide)
theorem b_M_oneIn_2 {X : zX} {x1 : Int32} {x2 : Int32} {h : zH} : zrn X 0 m_M_oneIn 2 [some (.ref 123), some (.int x1), some (.int x2)] [] h = (if (h.1 123 0) ≤ x2 then (some (some (.int (-9)), h)) else (if zin x2 7 = true then (if (h.1 126 (Int32.toNatClampNeg x2)) = x1 then (some (some (.int x2), h)) else zrn X 0 m_M_oneIn 2 [some (.ref 123), some (.int x1), some (.int (x2 + 1))] [] h) else none)) := by
  refine (rn_ld d_M_oneIn_2 rfl rfl rfl rfl).trans ?_
  refine (rn_ld d_M_oneIn_3 rfl rfl rfl rfl).trans ?_
  refine (rn_gi d_M_oneIn_4 f_4_65 zc_123).trans ?_
  refine (rn_ic_ge d_M_oneIn_7 (t := 28) (by decide)).trans (zif ?_ ?_)
  · refine (rn_push d_M_oneIn_28 zcs_bipush_m9).trans ?_
    exact rn_ri d_M_oneIn_30 rfl
  · refine (rn_ld d_M_oneIn_10 rfl rfl rfl rfl).trans ?_
    refine (rn_gr d_M_oneIn_11 f_4_16 zc_123 zr_123_3).trans ?_
    refine (rn_ld d_M_oneIn_14 rfl rfl rfl rfl).trans ?_
    refine (rn_ial d_M_oneIn_15 (by decide) zc_126).trans (zif ?_ rfl)
    refine (rn_ld d_M_oneIn_16 rfl rfl rfl rfl).trans ?_
    refine (rn_ic_ne d_M_oneIn_17 (t := 22) (by decide)).trans (zif ?_ ?_)
    · refine (rn_ld d_M_oneIn_20 rfl rfl rfl rfl).trans ?_
      exact rn_ri d_M_oneIn_21 rfl
    · refine (rn_inc d_M_oneIn_22 rfl (c := 1) (by decide) (ls' := [some (.ref 123), some (.int x1), some (.int (x2 + 1))]) rfl).trans ?_
      refine (rn_goto d_M_oneIn_25 (t := 2) (by decide)).trans ?_
      rfl
theorem e_M_oneIn {X : zX} {x1 : Int32} {h : zH} : zcf X m_M_oneIn [.ref 123, .int x1] h = zrn X 0 m_M_oneIn 2 [some (.ref 123), some (.int x1), some (.int 0)] [] h := by
  refine (zcf_run (Nat.le_of_ble_eq_true rfl)).trans ?_
  show zrn X 0 m_M_oneIn 0 [some (.ref 123), some (.int x1), none] [] h = _
  refine (rn_push d_M_oneIn_0 zcs_iconst_0).trans ?_
  refine (rn_st d_M_oneIn_1 rfl rfl rfl (by decide) rfl (Nat.le_of_ble_eq_true rfl) (ls' := [some (.ref 123), some (.int x1), some (.int 0)]) rfl).trans ?_
  rfl
theorem e_M_oneComes {X : zX} {x1 : Int32} {x2 : Int32} {x3 : Int32} {x4 : Int32} {h : zH} : zcf X m_M_oneComes [.ref 123, .int x1, .int x2, .int x3, .int x4] h = (if zin (h.1 123 0) 7 = true then (if zin ((zup h.1 124 (Int32.toNatClampNeg (h.1 123 0)) x1) 123 0) 7 = true then (if zin ((zup (zup h.1 124 (Int32.toNatClampNeg (h.1 123 0)) x1) 125 (Int32.toNatClampNeg ((zup h.1 124 (Int32.toNatClampNeg (h.1 123 0)) x1) 123 0)) x2) 123 0) 7 = true then (if zin ((zup (zup (zup h.1 124 (Int32.toNatClampNeg (h.1 123 0)) x1) 125 (Int32.toNatClampNeg ((zup h.1 124 (Int32.toNatClampNeg (h.1 123 0)) x1) 123 0)) x2) 126 (Int32.toNatClampNeg ((zup (zup h.1 124 (Int32.toNatClampNeg (h.1 123 0)) x1) 125 (Int32.toNatClampNeg ((zup h.1 124 (Int32.toNatClampNeg (h.1 123 0)) x1) 123 0)) x2) 123 0)) x3) 123 0) 7 = true then (if zin ((zup (zup (zup (zup h.1 124 (Int32.toNatClampNeg (h.1 123 0)) x1) 125 (Int32.toNatClampNeg ((zup h.1 124 (Int32.toNatClampNeg (h.1 123 0)) x1) 123 0)) x2) 126 (Int32.toNatClampNeg ((zup (zup h.1 124 (Int32.toNatClampNeg (h.1 123 0)) x1) 125 (Int32.toNatClampNeg ((zup h.1 124 (Int32.toNatClampNeg (h.1 123 0)) x1) 123 0)) x2) 123 0)) x3) 127 (Int32.toNatClampNeg ((zup (zup (zup h.1 124 (Int32.toNatClampNeg (h.1 123 0)) x1) 125 (Int32.toNatClampNeg ((zup h.1 124 (Int32.toNatClampNeg (h.1 123 0)) x1) 123 0)) x2) 126 (Int32.toNatClampNeg ((zup (zup h.1 124 (Int32.toNatClampNeg (h.1 123 0)) x1) 125 (Int32.toNatClampNeg ((zup h.1 124 (Int32.toNatClampNeg (h.1 123 0)) x1) 123 0)) x2) 123 0)) x3) 123 0)) x4) 123 0) 7 = true then (some (none, ((zup (zup (zup (zup (zup (zup h.1 124 (Int32.toNatClampNeg (h.1 123 0)) x1) 125 (Int32.toNatClampNeg ((zup h.1 124 (Int32.toNatClampNeg (h.1 123 0)) x1) 123 0)) x2) 126 (Int32.toNatClampNeg ((zup (zup h.1 124 (Int32.toNatClampNeg (h.1 123 0)) x1) 125 (Int32.toNatClampNeg ((zup h.1 124 (Int32.toNatClampNeg (h.1 123 0)) x1) 123 0)) x2) 123 0)) x3) 127 (Int32.toNatClampNeg ((zup (zup (zup h.1 124 (Int32.toNatClampNeg (h.1 123 0)) x1) 125 (Int32.toNatClampNeg ((zup h.1 124 (Int32.toNatClampNeg (h.1 123 0)) x1) 123 0)) x2) 126 (Int32.toNatClampNeg ((zup (zup h.1 124 (Int32.toNatClampNeg (h.1 123 0)) x1) 125 (Int32.toNatClampNeg ((zup h.1 124 (Int32.toNatClampNeg (h.1 123 0)) x1) 123 0)) x2) 123 0)) x3) 123 0)) x4) 128 (Int32.toNatClampNeg ((zup (zup (zup (zup h.1 124 (Int32.toNatClampNeg (h.1 123 0)) x1) 125 (Int32.toNatClampNeg ((zup h.1 124 (Int32.toNatClampNeg (h.1 123 0)) x1) 123 0)) x2) 126 (Int32.toNatClampNeg ((zup (zup h.1 124 (Int32.toNatClampNeg (h.1 123 0)) x1) 125 (Int32.toNatClampNeg ((zup h.1 124 (Int32.toNatClampNeg (h.1 123 0)) x1) 123 0)) x2) 123 0)) x3) 127 (Int32.toNatClampNeg ((zup (zup (zup h.1 124 (Int32.toNatClampNeg (h.1 123 0)) x1) 125 (Int32.toNatClampNeg ((zup h.1 124 (Int32.toNatClampNeg (h.1 123 0)) x1) 123 0)) x2) 126 (Int32.toNatClampNeg ((zup (zup h.1 124 (Int32.toNatClampNeg (h.1 123 0)) x1) 125 (Int32.toNatClampNeg ((zup h.1 124 (Int32.toNatClampNeg (h.1 123 0)) x1) 123 0)) x2) 123 0)) x3) 123 0)) x4) 123 0)) 0) 123 0 (((zup (zup (zup (zup (zup h.1 124 (Int32.toNatClampNeg (h.1 123 0)) x1) 125 (Int32.toNatClampNeg ((zup h.1 124 (Int32.toNatClampNeg (h.1 123 0)) x1) 123 0)) x2) 126 (Int32.toNatClampNeg ((zup (zup h.1 124 (Int32.toNatClampNeg (h.1 123 0)) x1) 125 (Int32.toNatClampNeg ((zup h.1 124 (Int32.toNatClampNeg (h.1 123 0)) x1) 123 0)) x2) 123 0)) x3) 127 (Int32.toNatClampNeg ((zup (zup (zup h.1 124 (Int32.toNatClampNeg (h.1 123 0)) x1) 125 (Int32.toNatClampNeg ((zup h.1 124 (Int32.toNatClampNeg (h.1 123 0)) x1) 123 0)) x2) 126 (Int32.toNatClampNeg ((zup (zup h.1 124 (Int32.toNatClampNeg (h.1 123 0)) x1) 125 (Int32.toNatClampNeg ((zup h.1 124 (Int32.toNatClampNeg (h.1 123 0)) x1) 123 0)) x2) 123 0)) x3) 123 0)) x4) 128 (Int32.toNatClampNeg ((zup (zup (zup (zup h.1 124 (Int32.toNatClampNeg (h.1 123 0)) x1) 125 (Int32.toNatClampNeg ((zup h.1 124 (Int32.toNatClampNeg (h.1 123 0)) x1) 123 0)) x2) 126 (Int32.toNatClampNeg ((zup (zup h.1 124 (Int32.toNatClampNeg (h.1 123 0)) x1) 125 (Int32.toNatClampNeg ((zup h.1 124 (Int32.toNatClampNeg (h.1 123 0)) x1) 123 0)) x2) 123 0)) x3) 127 (Int32.toNatClampNeg ((zup (zup (zup h.1 124 (Int32.toNatClampNeg (h.1 123 0)) x1) 125 (Int32.toNatClampNeg ((zup h.1 124 (Int32.toNatClampNeg (h.1 123 0)) x1) 123 0)) x2) 126 (Int32.toNatClampNeg ((zup (zup h.1 124 (Int32.toNatClampNeg (h.1 123 0)) x1) 125 (Int32.toNatClampNeg ((zup h.1 124 (Int32.toNatClampNeg (h.1 123 0)) x1) 123 0)) x2) 123 0)) x3) 123 0)) x4) 123 0)) 0) 123 0) + 1)), h.2))) else none) else none) else none) else none) else none) := by
  refine (zcf_run (Nat.le_of_ble_eq_true rfl)).trans ?_
  show zrn X 0 m_M_oneComes 0 [some (.ref 123), some (.int x1), some (.int x2), some (.int x3), some (.int x4)] [] h = _
  refine (rn_ld d_M_oneComes_0 rfl rfl rfl rfl).trans ?_
  refine (rn_gr d_M_oneComes_1 f_4_7 zc_123 zr_123_1).trans ?_
  refine (rn_ld d_M_oneComes_4 rfl rfl rfl rfl).trans ?_
  refine (rn_gi d_M_oneComes_5 f_4_65 zc_123).trans ?_
  refine (rn_ld d_M_oneComes_8 rfl rfl rfl rfl).trans ?_
  refine (rn_ias d_M_oneComes_9 zc_124).trans (zif ?_ rfl)
  refine (rn_ld d_M_oneComes_10 rfl rfl rfl rfl).trans ?_
  refine (rn_gr d_M_oneComes_11 f_4_13 zc_123 zr_123_2).trans ?_
  refine (rn_ld d_M_oneComes_14 rfl rfl rfl rfl).trans ?_
  refine (rn_gi d_M_oneComes_15 f_4_65 zc_123).trans ?_
  refine (rn_ld d_M_oneComes_18 rfl rfl rfl rfl).trans ?_
  refine (rn_ias d_M_oneComes_19 zc_125).trans (zif ?_ rfl)
  refine (rn_ld d_M_oneComes_20 rfl rfl rfl rfl).trans ?_
  refine (rn_gr d_M_oneComes_21 f_4_16 zc_123 zr_123_3).trans ?_
  refine (rn_ld d_M_oneComes_24 rfl rfl rfl rfl).trans ?_
  refine (rn_gi d_M_oneComes_25 f_4_65 zc_123).trans ?_
  refine (rn_ld d_M_oneComes_28 rfl rfl rfl rfl).trans ?_
  refine (rn_ias d_M_oneComes_29 zc_126).trans (zif ?_ rfl)
  refine (rn_ld d_M_oneComes_30 rfl rfl rfl rfl).trans ?_
  refine (rn_gr d_M_oneComes_31 f_4_19 zc_123 zr_123_4).trans ?_
  refine (rn_ld d_M_oneComes_34 rfl rfl rfl rfl).trans ?_
  refine (rn_gi d_M_oneComes_35 f_4_65 zc_123).trans ?_
  refine (rn_ld d_M_oneComes_38 rfl rfl rfl rfl).trans ?_
  refine (rn_ias d_M_oneComes_40 zc_127).trans (zif ?_ rfl)
  refine (rn_ld d_M_oneComes_41 rfl rfl rfl rfl).trans ?_
  refine (rn_gr d_M_oneComes_42 f_4_22 zc_123 zr_123_5).trans ?_
  refine (rn_ld d_M_oneComes_45 rfl rfl rfl rfl).trans ?_
  refine (rn_gi d_M_oneComes_46 f_4_65 zc_123).trans ?_
  refine (rn_push d_M_oneComes_49 zcs_iconst_0).trans ?_
  refine (rn_ias d_M_oneComes_50 zc_128).trans (zif ?_ rfl)
  refine (rn_ld d_M_oneComes_51 rfl rfl rfl rfl).trans ?_
  refine (rn_dup d_M_oneComes_52 rfl).trans ?_
  refine (rn_gi d_M_oneComes_53 f_4_65 zc_123).trans ?_
  refine (rn_push d_M_oneComes_56 zcs_iconst_1).trans ?_
  refine (rn_a2 d_M_oneComes_57 rfl).trans ?_
  refine (rn_pi d_M_oneComes_58 f_4_65 zc_123).trans ?_
  exact rn_rv d_M_oneComes_61 rfl
theorem e_M_isOne {X : zX} {x1 : Int32} {h : zH} : zcf X m_M_isOne [.ref 123, .int x1] h = (zbI (zcf X m_M_in [.long (Int32.toInt64 x1), .long 0, .long (Int32.toInt64 ((h.1 123 0) - 1))] h) fun v2 h1 => (if v2 = 0 ∨ v2 = 1 then (some (some (.int v2), h1)) else none)) := by
  refine (zcf_run (Nat.le_of_ble_eq_true rfl)).trans ?_
  show zrn X 1 m_M_isOne 0 [some (.ref 123), some (.int x1)] [] h = _
  refine (rn_ld d_M_isOne_0 rfl rfl rfl rfl).trans ?_
  refine (rn_i2l d_M_isOne_1).trans ?_
  refine (rn_push d_M_isOne_2 zcs_lconst_0).trans ?_
  refine (rn_ld d_M_isOne_3 rfl rfl rfl rfl).trans ?_
  refine (rn_gi d_M_isOne_4 f_4_65 zc_123).trans ?_
  refine (rn_push d_M_isOne_7 zcs_iconst_1).trans ?_
  refine (rn_a2 d_M_isOne_8 rfl).trans ?_
  refine (rn_i2l d_M_isOne_9).trans ?_
  refine (rn_sI d_M_isOne_10 nb_4_68 (zinv_s l_4_68 (by decide) (Nat.le_of_ble_eq_true rfl) rfl rfl (Nat.le_of_ble_eq_true rfl)) (Nat.le_of_ble_eq_true rfl) (Or.inr rfl)).trans (zbI_congr fun v2 h1 => ?_)
  exact rn_rzg d_M_isOne_13 rfl
theorem b_M_goNights_2 {X : zX} {x1 : Int32} {x2 : Int32} {h : zH} : zrn X 6 m_M_goNights 2 [some (.ref 123), some (.int x1), some (.int x2)] [] h = (if x1 ≤ x2 then (some (none, h)) else (zbV (zcf X m_M_nightBy [.ref 123, .int (-9)] h) fun h1 => zrn X 6 m_M_goNights 2 [some (.ref 123), some (.int x1), some (.int (x2 + 1))] [] h1)) := by
  refine (rn_ld d_M_goNights_2 rfl rfl rfl rfl).trans ?_
  refine (rn_ld d_M_goNights_3 rfl rfl rfl rfl).trans ?_
  refine (rn_ic_ge d_M_goNights_4 (t := 19) (by decide)).trans (zif ?_ ?_)
  · exact rn_rv d_M_goNights_19 rfl
  · refine (rn_ld d_M_goNights_7 rfl rfl rfl rfl).trans ?_
    refine (rn_push d_M_goNights_8 zcs_bipush_m9).trans ?_
    refine (rn_vV d_M_goNights_10 (zinv_v l_4_119 (by decide) (Nat.le_of_ble_eq_true rfl) rfl rfl zc_123 (Nat.le_of_ble_eq_true rfl)) (Nat.le_of_ble_eq_true rfl) rfl).trans (zbV_congr fun h1 => ?_)
    refine (rn_inc d_M_goNights_13 rfl (c := 1) (by decide) (ls' := [some (.ref 123), some (.int x1), some (.int (x2 + 1))]) rfl).trans ?_
    refine (rn_goto d_M_goNights_16 (t := 2) (by decide)).trans ?_
    rfl
theorem e_M_goNights {X : zX} {x1 : Int32} {h : zH} : zcf X m_M_goNights [.ref 123, .int x1] h = zrn X 6 m_M_goNights 2 [some (.ref 123), some (.int x1), some (.int 0)] [] h := by
  refine (zcf_run (Nat.le_of_ble_eq_true rfl)).trans ?_
  show zrn X 6 m_M_goNights 0 [some (.ref 123), some (.int x1), none] [] h = _
  refine (rn_push d_M_goNights_0 zcs_iconst_0).trans ?_
  refine (rn_st d_M_goNights_1 rfl rfl rfl (by decide) rfl (Nat.le_of_ble_eq_true rfl) (ls' := [some (.ref 123), some (.int x1), some (.int 0)]) rfl).trans ?_
  rfl
theorem b_M_nightBy_22 {X : zX} {x1 : Int32} {x2 : Int32} {g3 : Option Value} {h : zH} : zrn X 5 m_M_nightBy 22 [some (.ref 123), some (.int x1), some (.int x2), g3] [] h = (if (h.1 123 0) ≤ x2 then (some (none, h)) else (if x2 = x1 then zrn X 5 m_M_nightBy 22 [some (.ref 123), some (.int x1), some (.int (x2 + 1)), some (.int (-9))] [] h else (zbI (zcf X m_M_lensOf [.ref 123, .int x2] h) fun v2 h1 => (if v2 < 0 then zrn X 5 m_M_nightBy 22 [some (.ref 123), some (.int x1), some (.int (x2 + 1)), some (.int v2)] [] h1 else (if zin x2 7 = true then (if zin x2 7 = true then (if zin x2 7 = true then (zbV (zcf X m_M_goesBy [.ref 123, .int x2, .int v2] ((zup (zup h1.1 128 (Int32.toNatClampNeg x2) ((h1.1 128 (Int32.toNatClampNeg x2)) + (if 99 ≤ (h1.1 128 (Int32.toNatClampNeg x2)) then (0 : Int32) else 1))) 123 10 (((zup h1.1 128 (Int32.toNatClampNeg x2) ((h1.1 128 (Int32.toNatClampNeg x2)) + (if 99 ≤ (h1.1 128 (Int32.toNatClampNeg x2)) then (0 : Int32) else 1))) 123 10) ||| ((1 : Int32) <<< (x2 &&& 31)))), h1.2)) fun h4 => zrn X 5 m_M_nightBy 22 [some (.ref 123), some (.int x1), some (.int (x2 + 1)), some (.int v2)] [] h4) else none) else none) else none))))) := by
  refine (rn_ld d_M_nightBy_22 rfl rfl rfl rfl).trans ?_
  refine (rn_ld d_M_nightBy_23 rfl rfl rfl rfl).trans ?_
  refine (rn_gi d_M_nightBy_24 f_4_65 zc_123).trans ?_
  refine (rn_ic_ge d_M_nightBy_27 (t := 99) (by decide)).trans (zif ?_ ?_)
  · exact rn_rv d_M_nightBy_99 rfl
  · refine (rn_ld d_M_nightBy_30 rfl rfl rfl rfl).trans ?_
    refine (rn_ld d_M_nightBy_31 rfl rfl rfl rfl).trans ?_
    refine (rn_ic_ne d_M_nightBy_32 (t := 40) (by decide)).trans (zif ?_ ?_)
    · refine (rn_push d_M_nightBy_35 zcs_bipush_m9).trans ?_
      refine (rn_goto d_M_nightBy_37 (t := 45) (by decide)).trans ?_
      refine (rn_st d_M_nightBy_45 rfl rfl rfl (by decide) rfl (Nat.le_of_ble_eq_true rfl) (ls' := [some (.ref 123), some (.int x1), some (.int x2), some (.int (-9))]) rfl).trans ?_
      refine (rn_ld d_M_nightBy_46 rfl rfl rfl rfl).trans ?_
      refine ((rn_if_lt d_M_nightBy_47 (t := 93) (by decide)).trans (if_pos (by decide))).trans ?_
      refine (rn_inc d_M_nightBy_93 rfl (c := 1) (by decide) (ls' := [some (.ref 123), some (.int x1), some (.int (x2 + 1)), some (.int (-9))]) rfl).trans ?_
      refine (rn_goto d_M_nightBy_96 (t := 22) (by decide)).trans ?_
      rfl
    · refine (rn_ld d_M_nightBy_40 rfl rfl rfl rfl).trans ?_
      refine (rn_ld d_M_nightBy_41 rfl rfl rfl rfl).trans ?_
      refine (rn_vI d_M_nightBy_42 (zinv_v l_4_113 (by decide) (Nat.le_of_ble_eq_true rfl) rfl rfl zc_123 (Nat.le_of_ble_eq_true rfl)) (Nat.le_of_ble_eq_true rfl) (Or.inl rfl)).trans (zbI_congr fun v2 h1 => ?_)
      refine (rn_st d_M_nightBy_45 rfl rfl rfl (by decide) rfl (Nat.le_of_ble_eq_true rfl) (ls' := [some (.ref 123), some (.int x1), some (.int x2), some (.int v2)]) rfl).trans ?_
      refine (rn_ld d_M_nightBy_46 rfl rfl rfl rfl).trans ?_
      refine (rn_if_lt d_M_nightBy_47 (t := 93) (by decide)).trans (zif ?_ ?_)
      · refine (rn_inc d_M_nightBy_93 rfl (c := 1) (by decide) (ls' := [some (.ref 123), some (.int x1), some (.int (x2 + 1)), some (.int v2)]) rfl).trans ?_
        refine (rn_goto d_M_nightBy_96 (t := 22) (by decide)).trans ?_
        rfl
      · refine (rn_ld d_M_nightBy_50 rfl rfl rfl rfl).trans ?_
        refine (rn_gr d_M_nightBy_51 f_4_22 zc_123 zr_123_5).trans ?_
        refine (rn_ld d_M_nightBy_54 rfl rfl rfl rfl).trans ?_
        refine (rn_dup2 d_M_nightBy_55 rfl rfl).trans ?_
        refine (rn_ial d_M_nightBy_56 (by decide) zc_128).trans (zif ?_ rfl)
        refine (rn_ld d_M_nightBy_57 rfl rfl rfl rfl).trans ?_
        refine (rn_gr d_M_nightBy_58 f_4_22 zc_123 zr_123_5).trans ?_
        refine (rn_ld d_M_nightBy_61 rfl rfl rfl rfl).trans ?_
        refine (rn_ial d_M_nightBy_62 (by decide) zc_128).trans (zif ?_ rfl)
        refine (rn_push d_M_nightBy_63 zcs_bipush_99).trans ?_
        refine Eq.trans (b := zrn X 5 m_M_nightBy 73 [some (.ref 123), some (.int x1), some (.int x2), some (.int v2)] [.int (if 99 ≤ (h1.1 128 (Int32.toNatClampNeg x2)) then (0 : Int32) else 1), .int (h1.1 128 (Int32.toNatClampNeg x2)), .int x2, .ref 128] h1) ?_ ?_
        · refine (rn_ic_ge d_M_nightBy_65 (t := 72) (by decide)).trans ?_
          by_cases q3 : 99 ≤ (h1.1 128 (Int32.toNatClampNeg x2))
          · simp only [if_pos q3]
            refine (rn_push d_M_nightBy_72 zcs_iconst_0).trans ?_
            all_goals rfl
          · simp only [if_neg q3]
            refine (rn_push d_M_nightBy_68 zcs_iconst_1).trans ?_
            refine (rn_goto d_M_nightBy_69 (t := 73) (by decide)).trans ?_
            all_goals rfl
        refine (rn_a2 d_M_nightBy_73 rfl).trans ?_
        refine (rn_ias d_M_nightBy_74 zc_128).trans (zif ?_ rfl)
        refine (rn_ld d_M_nightBy_75 rfl rfl rfl rfl).trans ?_
        refine (rn_dup d_M_nightBy_76 rfl).trans ?_
        refine (rn_gi d_M_nightBy_77 f_4_110 zc_123).trans ?_
        refine (rn_push d_M_nightBy_80 zcs_iconst_1).trans ?_
        refine (rn_ld d_M_nightBy_81 rfl rfl rfl rfl).trans ?_
        refine (rn_a2 d_M_nightBy_82 rfl).trans ?_
        refine (rn_a2 d_M_nightBy_83 rfl).trans ?_
        refine (rn_pi d_M_nightBy_84 f_4_110 zc_123).trans ?_
        refine (rn_ld d_M_nightBy_87 rfl rfl rfl rfl).trans ?_
        refine (rn_ld d_M_nightBy_88 rfl rfl rfl rfl).trans ?_
        refine (rn_ld d_M_nightBy_89 rfl rfl rfl rfl).trans ?_
        refine (rn_vV d_M_nightBy_90 (zinv_v l_4_116 (by decide) (Nat.le_of_ble_eq_true rfl) rfl rfl zc_123 (Nat.le_of_ble_eq_true rfl)) (Nat.le_of_ble_eq_true rfl) rfl).trans (zbV_congr fun h4 => ?_)
        refine (rn_inc d_M_nightBy_93 rfl (c := 1) (by decide) (ls' := [some (.ref 123), some (.int x1), some (.int (x2 + 1)), some (.int v2)]) rfl).trans ?_
        refine (rn_goto d_M_nightBy_96 (t := 22) (by decide)).trans ?_
        rfl
theorem e_M_nightBy {X : zX} {x1 : Int32} {h : zH} : zcf X m_M_nightBy [.ref 123, .int x1] h = zrn X 5 m_M_nightBy 22 [some (.ref 123), some (.int x1), some (.int 0), none] [] ((zup (zup (zup h.1 123 6 ((h.1 123 6) + 1)) 123 9 0) 123 10 0), h.2) := by
  refine (zcf_run (Nat.le_of_ble_eq_true rfl)).trans ?_
  show zrn X 5 m_M_nightBy 0 [some (.ref 123), some (.int x1), none, none] [] h = _
  refine (rn_ld d_M_nightBy_0 rfl rfl rfl rfl).trans ?_
  refine (rn_dup d_M_nightBy_1 rfl).trans ?_
  refine (rn_gi d_M_nightBy_2 f_4_107 zc_123).trans ?_
  refine (rn_push d_M_nightBy_5 zcs_iconst_1).trans ?_
  refine (rn_a2 d_M_nightBy_6 rfl).trans ?_
  refine (rn_pi d_M_nightBy_7 f_4_107 zc_123).trans ?_
  refine (rn_ld d_M_nightBy_10 rfl rfl rfl rfl).trans ?_
  refine (rn_push d_M_nightBy_11 zcs_iconst_0).trans ?_
  refine (rn_pi d_M_nightBy_12 f_4_100 zc_123).trans ?_
  refine (rn_ld d_M_nightBy_15 rfl rfl rfl rfl).trans ?_
  refine (rn_push d_M_nightBy_16 zcs_iconst_0).trans ?_
  refine (rn_pi d_M_nightBy_17 f_4_110 zc_123).trans ?_
  refine (rn_push d_M_nightBy_20 zcs_iconst_0).trans ?_
  refine (rn_st d_M_nightBy_21 rfl rfl rfl (by decide) rfl (Nat.le_of_ble_eq_true rfl) (ls' := [some (.ref 123), some (.int x1), some (.int 0), none]) rfl).trans ?_
  rfl
theorem e_M_lensOf {X : zX} {x1 : Int32} {h : zH} : zcf X m_M_lensOf [.ref 123, .int x1] h = (if zin x1 7 = true then (if zin x1 7 = true then (zbI (zcf X m_M_depthOf [.ref 123, .int x1] h) fun v2 h1 => (zbI (zcf X m_M_nextFrom [.ref 123, .int (h.1 126 (Int32.toNatClampNeg x1)), .int (zrem ((h.1 127 (Int32.toNatClampNeg x1)) + 2) 4), .int v2] h1) fun v4 h3 => (some (some (.int v4), h3)))) else none) else none) := by
  refine (zcf_run (Nat.le_of_ble_eq_true rfl)).trans ?_
  show zrn X 3 m_M_lensOf 0 [some (.ref 123), some (.int x1)] [] h = _
  refine (rn_ld d_M_lensOf_0 rfl rfl rfl rfl).trans ?_
  refine (rn_ld d_M_lensOf_1 rfl rfl rfl rfl).trans ?_
  refine (rn_gr d_M_lensOf_2 f_4_16 zc_123 zr_123_3).trans ?_
  refine (rn_ld d_M_lensOf_5 rfl rfl rfl rfl).trans ?_
  refine (rn_ial d_M_lensOf_6 (by decide) zc_126).trans (zif ?_ rfl)
  refine (rn_ld d_M_lensOf_7 rfl rfl rfl rfl).trans ?_
  refine (rn_gr d_M_lensOf_8 f_4_19 zc_123 zr_123_4).trans ?_
  refine (rn_ld d_M_lensOf_11 rfl rfl rfl rfl).trans ?_
  refine (rn_ial d_M_lensOf_12 (by decide) zc_127).trans (zif ?_ rfl)
  refine (rn_push d_M_lensOf_13 zcs_iconst_2).trans ?_
  refine (rn_a2 d_M_lensOf_14 rfl).trans ?_
  refine (rn_push d_M_lensOf_15 zcs_iconst_4).trans ?_
  refine (rn_a2 d_M_lensOf_16 (zar_rem (by decide))).trans ?_
  refine (rn_ld d_M_lensOf_17 rfl rfl rfl rfl).trans ?_
  refine (rn_ld d_M_lensOf_18 rfl rfl rfl rfl).trans ?_
  refine (rn_vI d_M_lensOf_19 (zinv_v l_4_94 (by decide) (Nat.le_of_ble_eq_true rfl) rfl rfl zc_123 (Nat.le_of_ble_eq_true rfl)) (Nat.le_of_ble_eq_true rfl) (Or.inl rfl)).trans (zbI_congr fun v2 h1 => ?_)
  refine (rn_vI d_M_lensOf_22 (zinv_v l_4_91 (by decide) (Nat.le_of_ble_eq_true rfl) rfl rfl zc_123 (Nat.le_of_ble_eq_true rfl)) (Nat.le_of_ble_eq_true rfl) (Or.inl rfl)).trans (zbI_congr fun v4 h3 => ?_)
  exact rn_ri d_M_lensOf_25 rfl
theorem e_M_depthOf {X : zX} {x1 : Int32} {h : zH} : zcf X m_M_depthOf [.ref 123, .int x1] h = (if zin x1 7 = true then (if zin x1 7 = true then (if (h.1 124 (Int32.toNatClampNeg x1)) = 2 then (some (some (.int ((2 + ((h.1 125 (Int32.toNatClampNeg x1)) / 4)) + 1)), h)) else (if (h.1 124 (Int32.toNatClampNeg x1)) = 3 then (some (some (.int (2 + ((h.1 125 (Int32.toNatClampNeg x1)) / 4))), h)) else (if (h.1 124 (Int32.toNatClampNeg x1)) = 4 then (some (some (.int (2 * ((2 + ((h.1 125 (Int32.toNatClampNeg x1)) / 4)) + 1))), h)) else (if (h.1 124 (Int32.toNatClampNeg x1)) = 5 then (some (some (.int 1), h)) else (some (some (.int (2 + ((h.1 125 (Int32.toNatClampNeg x1)) / 4))), h)))))) else none) else none) := by
  refine (zcf_run (Nat.le_of_ble_eq_true rfl)).trans ?_
  show zrn X 0 m_M_depthOf 0 [some (.ref 123), some (.int x1), none] [] h = _
  refine (rn_push d_M_depthOf_0 zcs_iconst_2).trans ?_
  refine (rn_ld d_M_depthOf_1 rfl rfl rfl rfl).trans ?_
  refine (rn_gr d_M_depthOf_2 f_4_13 zc_123 zr_123_2).trans ?_
  refine (rn_ld d_M_depthOf_5 rfl rfl rfl rfl).trans ?_
  refine (rn_ial d_M_depthOf_6 (by decide) zc_125).trans (zif ?_ rfl)
  refine (rn_push d_M_depthOf_7 zcs_iconst_4).trans ?_
  refine (rn_a2 d_M_depthOf_8 (zar_div (by decide))).trans ?_
  refine (rn_a2 d_M_depthOf_9 rfl).trans ?_
  refine (rn_st d_M_depthOf_10 rfl rfl rfl (by decide) rfl (Nat.le_of_ble_eq_true rfl) (ls' := [some (.ref 123), some (.int x1), some (.int (2 + ((h.1 125 (Int32.toNatClampNeg x1)) / 4)))]) rfl).trans ?_
  refine (rn_ld d_M_depthOf_11 rfl rfl rfl rfl).trans ?_
  refine (rn_gr d_M_depthOf_12 f_4_7 zc_123 zr_123_1).trans ?_
  refine (rn_ld d_M_depthOf_15 rfl rfl rfl rfl).trans ?_
  refine (rn_ial d_M_depthOf_16 (by decide) zc_124).trans (zif ?_ rfl)
  refine zite (fun q1 => ?_) (fun q1 => ?_)
  · refine (rn_tsw d_M_depthOf_17 (t := 48) (by rw [q1]; decide +kernel)).trans ?_
    refine (rn_ld d_M_depthOf_48 rfl rfl rfl rfl).trans ?_
    refine (rn_push d_M_depthOf_49 zcs_iconst_1).trans ?_
    refine (rn_a2 d_M_depthOf_50 rfl).trans ?_
    exact rn_ri d_M_depthOf_51 rfl
  · refine zite (fun q2 => ?_) (fun q2 => ?_)
    · refine (rn_tsw d_M_depthOf_17 (t := 60) (by rw [q2]; decide +kernel)).trans ?_
      refine (rn_ld d_M_depthOf_60 rfl rfl rfl rfl).trans ?_
      exact rn_ri d_M_depthOf_61 rfl
    · refine zite (fun q3 => ?_) (fun q3 => ?_)
      · refine (rn_tsw d_M_depthOf_17 (t := 52) (by rw [q3]; decide +kernel)).trans ?_
        refine (rn_push d_M_depthOf_52 zcs_iconst_2).trans ?_
        refine (rn_ld d_M_depthOf_53 rfl rfl rfl rfl).trans ?_
        refine (rn_push d_M_depthOf_54 zcs_iconst_1).trans ?_
        refine (rn_a2 d_M_depthOf_55 rfl).trans ?_
        refine (rn_a2 d_M_depthOf_56 rfl).trans ?_
        exact rn_ri d_M_depthOf_57 rfl
      · refine zite (fun q4 => ?_) (fun q4 => ?_)
        · refine (rn_tsw d_M_depthOf_17 (t := 58) (by rw [q4]; decide +kernel)).trans ?_
          refine (rn_push d_M_depthOf_58 zcs_iconst_1).trans ?_
          exact rn_ri d_M_depthOf_59 rfl
        · refine (rn_tsw d_M_depthOf_17 (t := 60) (zsw_out (by have z2 := lv_neT q1 (a := 2) rfl; have z3 := lv_neT q2 (a := 3) rfl; have z4 := lv_neT q3 (a := 4) rfl; have z5 := lv_neT q4 (a := 5) rfl; omega) (by decide))).trans ?_
          refine (rn_ld d_M_depthOf_60 rfl rfl rfl rfl).trans ?_
          exact rn_ri d_M_depthOf_61 rfl
theorem b_M_nextFrom_3 {X : zX} {x1 : Int32} {x2 : Int32} {x3 : Int32} {x4 : Int32} {g5 : Option Value} {g6 : Option Value} {h : zH} : zrn X 2 m_M_nextFrom 3 [some (.ref 123), some (.int x1), some (.int x2), some (.int x3), some (.int x4), g5, g6] [] h = (if x3 < x4 then (some (some (.int (-9)), h)) else (if 6 ≤ x4 then (some (some (.int (-9)), h)) else (zbI (zcf X m_M_straight [.int x1, .int x2, .int x4] h) fun v2 h1 => (if 0 ≤ v2 then (zbI (zcf X m_M_oneIn [.ref 123, .int v2] h1) fun v4 h3 => (if v4 < 0 then zrn X 2 m_M_nextFrom 3 [some (.ref 123), some (.int x1), some (.int x2), some (.int x3), some (.int (x4 + 1)), some (.int v2), some (.int v4)] [] h3 else (some (some (.int v4), h3)))) else zrn X 2 m_M_nextFrom 3 [some (.ref 123), some (.int x1), some (.int x2), some (.int x3), some (.int (x4 + 1)), some (.int v2), some (.int (-9))] [] h1)))) := by
  refine (rn_ld d_M_nextFrom_3 rfl rfl rfl rfl).trans ?_
  refine (rn_ld d_M_nextFrom_5 rfl rfl rfl rfl).trans ?_
  refine (rn_ic_gt d_M_nextFrom_6 (t := 57) (by decide)).trans (zif ?_ ?_)
  · refine (rn_push d_M_nextFrom_57 zcs_bipush_m9).trans ?_
    exact rn_ri d_M_nextFrom_59 rfl
  · refine (rn_ld d_M_nextFrom_9 rfl rfl rfl rfl).trans ?_
    refine (rn_push d_M_nextFrom_11 zcs_bipush_6).trans ?_
    refine (rn_ic_ge d_M_nextFrom_13 (t := 57) (by decide)).trans (zif ?_ ?_)
    · refine (rn_push d_M_nextFrom_57 zcs_bipush_m9).trans ?_
      exact rn_ri d_M_nextFrom_59 rfl
    · refine (rn_ld d_M_nextFrom_16 rfl rfl rfl rfl).trans ?_
      refine (rn_ld d_M_nextFrom_17 rfl rfl rfl rfl).trans ?_
      refine (rn_ld d_M_nextFrom_18 rfl rfl rfl rfl).trans ?_
      refine (rn_sI d_M_nextFrom_20 nb_4_80 (zinv_s l_4_80 (by decide) (Nat.le_of_ble_eq_true rfl) rfl rfl (Nat.le_of_ble_eq_true rfl)) (Nat.le_of_ble_eq_true rfl) (Or.inl rfl)).trans (zbI_congr fun v2 h1 => ?_)
      refine (rn_st d_M_nextFrom_23 rfl rfl rfl (by decide) rfl (Nat.le_of_ble_eq_true rfl) (ls' := [some (.ref 123), some (.int x1), some (.int x2), some (.int x3), some (.int x4), some (.int v2), g6]) rfl).trans ?_
      refine (rn_ld d_M_nextFrom_25 rfl rfl rfl rfl).trans ?_
      refine (rn_if_ge d_M_nextFrom_27 (t := 35) (by decide)).trans (zif ?_ ?_)
      · refine (rn_ld d_M_nextFrom_35 rfl rfl rfl rfl).trans ?_
        refine (rn_ld d_M_nextFrom_36 rfl rfl rfl rfl).trans ?_
        refine (rn_vI d_M_nextFrom_38 (zinv_v l_4_84 (by decide) (Nat.le_of_ble_eq_true rfl) rfl rfl zc_123 (Nat.le_of_ble_eq_true rfl)) (Nat.le_of_ble_eq_true rfl) (Or.inl rfl)).trans (zbI_congr fun v4 h3 => ?_)
        refine (rn_st d_M_nextFrom_41 rfl rfl rfl (by decide) rfl (Nat.le_of_ble_eq_true rfl) (ls' := [some (.ref 123), some (.int x1), some (.int x2), some (.int x3), some (.int x4), some (.int v2), some (.int v4)]) rfl).trans ?_
        refine (rn_ld d_M_nextFrom_43 rfl rfl rfl rfl).trans ?_
        refine (rn_if_lt d_M_nextFrom_45 (t := 51) (by decide)).trans (zif ?_ ?_)
        · refine (rn_inc d_M_nextFrom_51 rfl (c := 1) (by decide) (ls' := [some (.ref 123), some (.int x1), some (.int x2), some (.int x3), some (.int (x4 + 1)), some (.int v2), some (.int v4)]) rfl).trans ?_
          refine (rn_goto d_M_nextFrom_54 (t := 3) (by decide)).trans ?_
          rfl
        · refine (rn_ld d_M_nextFrom_48 rfl rfl rfl rfl).trans ?_
          exact rn_ri d_M_nextFrom_50 rfl
      · refine (rn_push d_M_nextFrom_30 zcs_bipush_m9).trans ?_
        refine (rn_goto d_M_nextFrom_32 (t := 41) (by decide)).trans ?_
        refine (rn_st d_M_nextFrom_41 rfl rfl rfl (by decide) rfl (Nat.le_of_ble_eq_true rfl) (ls' := [some (.ref 123), some (.int x1), some (.int x2), some (.int x3), some (.int x4), some (.int v2), some (.int (-9))]) rfl).trans ?_
        refine (rn_ld d_M_nextFrom_43 rfl rfl rfl rfl).trans ?_
        refine ((rn_if_lt d_M_nextFrom_45 (t := 51) (by decide)).trans (if_pos (by decide))).trans ?_
        refine (rn_inc d_M_nextFrom_51 rfl (c := 1) (by decide) (ls' := [some (.ref 123), some (.int x1), some (.int x2), some (.int x3), some (.int (x4 + 1)), some (.int v2), some (.int (-9))]) rfl).trans ?_
        refine (rn_goto d_M_nextFrom_54 (t := 3) (by decide)).trans ?_
        rfl
theorem e_M_nextFrom {X : zX} {x1 : Int32} {x2 : Int32} {x3 : Int32} {h : zH} : zcf X m_M_nextFrom [.ref 123, .int x1, .int x2, .int x3] h = zrn X 2 m_M_nextFrom 3 [some (.ref 123), some (.int x1), some (.int x2), some (.int x3), some (.int 1), none, none] [] h := by
  refine (zcf_run (Nat.le_of_ble_eq_true rfl)).trans ?_
  show zrn X 2 m_M_nextFrom 0 [some (.ref 123), some (.int x1), some (.int x2), some (.int x3), none, none, none] [] h = _
  refine (rn_push d_M_nextFrom_0 zcs_iconst_1).trans ?_
  refine (rn_st d_M_nextFrom_1 rfl rfl rfl (by decide) rfl (Nat.le_of_ble_eq_true rfl) (ls' := [some (.ref 123), some (.int x1), some (.int x2), some (.int x3), some (.int 1), none, none]) rfl).trans ?_
  rfl
theorem e_M_straight {X : zX} {x0 : Int32} {x1 : Int32} {x2 : Int32} {h : zH} : zcf X m_M_straight [.int x0, .int x1, .int x2] h = (zbI (zcf X m_M_in [.long (Int32.toInt64 ((x0 / 6) + (if x1 = 2 then x2 else (if x1 = 0 then (-x2) else 0)))), .long 0, .long 5] h) fun v6 h5 => (if v6 = 0 then (some (some (.int (-9)), h5)) else (zbI (zcf X m_M_in [.long (Int32.toInt64 ((zrem x0 6) + (if x1 = 1 then x2 else (if x1 = 3 then (-x2) else 0)))), .long 0, .long 5] h5) fun v8 h7 => (if v8 = 0 then (some (some (.int (-9)), h7)) else (some (some (.int ((6 * ((x0 / 6) + (if x1 = 2 then x2 else (if x1 = 0 then (-x2) else 0)))) + ((zrem x0 6) + (if x1 = 1 then x2 else (if x1 = 3 then (-x2) else 0))))), h7)))))) := by
  refine (zcf_run (Nat.le_of_ble_eq_true rfl)).trans ?_
  show zrn X 1 m_M_straight 0 [some (.int x0), some (.int x1), some (.int x2), none, none] [] h = _
  refine (rn_ld d_M_straight_0 rfl rfl rfl rfl).trans ?_
  refine (rn_push d_M_straight_1 zcs_bipush_6).trans ?_
  refine (rn_a2 d_M_straight_3 (zar_div (by decide))).trans ?_
  refine (rn_ld d_M_straight_4 rfl rfl rfl rfl).trans ?_
  refine (rn_push d_M_straight_5 zcs_iconst_2).trans ?_
  refine Eq.trans (b := zrn X 1 m_M_straight 23 [some (.int x0), some (.int x1), some (.int x2), none, none] [.int (if x1 = 2 then x2 else (if x1 = 0 then (-x2) else 0)), .int (x0 / 6)] h) ?_ ?_
  · refine (rn_ic_ne d_M_straight_6 (t := 13) (by decide)).trans ?_
    by_cases q1 : x1 = 2
    · simp only [if_pos q1]
      refine (rn_ld d_M_straight_9 rfl rfl rfl rfl).trans ?_
      refine (rn_goto d_M_straight_10 (t := 23) (by decide)).trans ?_
      all_goals rfl
    · simp only [if_neg q1]
      refine (rn_ld d_M_straight_13 rfl rfl rfl rfl).trans ?_
      refine (rn_if_ne d_M_straight_14 (t := 22) (by decide)).trans ?_
      by_cases q2 : x1 = 0
      · simp only [if_pos q2]
        refine (rn_ld d_M_straight_17 rfl rfl rfl rfl).trans ?_
        refine (rn_neg d_M_straight_18).trans ?_
        refine (rn_goto d_M_straight_19 (t := 23) (by decide)).trans ?_
        all_goals rfl
      · simp only [if_neg q2]
        refine (rn_push d_M_straight_22 zcs_iconst_0).trans ?_
        all_goals rfl
  refine (rn_a2 d_M_straight_23 rfl).trans ?_
  refine (rn_st d_M_straight_24 rfl rfl rfl (by decide) rfl (Nat.le_of_ble_eq_true rfl) (ls' := [some (.int x0), some (.int x1), some (.int x2), some (.int ((x0 / 6) + (if x1 = 2 then x2 else (if x1 = 0 then (-x2) else 0)))), none]) rfl).trans ?_
  refine (rn_ld d_M_straight_25 rfl rfl rfl rfl).trans ?_
  refine (rn_push d_M_straight_26 zcs_bipush_6).trans ?_
  refine (rn_a2 d_M_straight_28 (zar_rem (by decide))).trans ?_
  refine (rn_ld d_M_straight_29 rfl rfl rfl rfl).trans ?_
  refine (rn_push d_M_straight_30 zcs_iconst_1).trans ?_
  refine Eq.trans (b := zrn X 1 m_M_straight 49 [some (.int x0), some (.int x1), some (.int x2), some (.int ((x0 / 6) + (if x1 = 2 then x2 else (if x1 = 0 then (-x2) else 0)))), none] [.int (if x1 = 1 then x2 else (if x1 = 3 then (-x2) else 0)), .int (zrem x0 6)] h) ?_ ?_
  · refine (rn_ic_ne d_M_straight_31 (t := 38) (by decide)).trans ?_
    by_cases q3 : x1 = 1
    · simp only [if_pos q3]
      refine (rn_ld d_M_straight_34 rfl rfl rfl rfl).trans ?_
      refine (rn_goto d_M_straight_35 (t := 49) (by decide)).trans ?_
      all_goals rfl
    · simp only [if_neg q3]
      refine (rn_ld d_M_straight_38 rfl rfl rfl rfl).trans ?_
      refine (rn_push d_M_straight_39 zcs_iconst_3).trans ?_
      refine (rn_ic_ne d_M_straight_40 (t := 48) (by decide)).trans ?_
      by_cases q4 : x1 = 3
      · simp only [if_pos q4]
        refine (rn_ld d_M_straight_43 rfl rfl rfl rfl).trans ?_
        refine (rn_neg d_M_straight_44).trans ?_
        refine (rn_goto d_M_straight_45 (t := 49) (by decide)).trans ?_
        all_goals rfl
      · simp only [if_neg q4]
        refine (rn_push d_M_straight_48 zcs_iconst_0).trans ?_
        all_goals rfl
  refine (rn_a2 d_M_straight_49 rfl).trans ?_
  refine (rn_st d_M_straight_50 rfl rfl rfl (by decide) rfl (Nat.le_of_ble_eq_true rfl) (ls' := [some (.int x0), some (.int x1), some (.int x2), some (.int ((x0 / 6) + (if x1 = 2 then x2 else (if x1 = 0 then (-x2) else 0)))), some (.int ((zrem x0 6) + (if x1 = 1 then x2 else (if x1 = 3 then (-x2) else 0))))]) rfl).trans ?_
  refine (rn_ld d_M_straight_52 rfl rfl rfl rfl).trans ?_
  refine (rn_i2l d_M_straight_53).trans ?_
  refine (rn_push d_M_straight_54 zcs_lconst_0).trans ?_
  refine (rn_push d_M_straight_55 zcs_ldc2_4_78).trans ?_
  refine (rn_sI d_M_straight_58 nb_4_68 (zinv_s l_4_68 (by decide) (Nat.le_of_ble_eq_true rfl) rfl rfl (Nat.le_of_ble_eq_true rfl)) (Nat.le_of_ble_eq_true rfl) (Or.inr rfl)).trans (zbI_congr fun v6 h5 => ?_)
  refine (rn_if_eq d_M_straight_61 (t := 87) (by decide)).trans (zif ?_ ?_)
  · refine (rn_push d_M_straight_87 zcs_bipush_m9).trans ?_
    exact rn_ri d_M_straight_89 rfl
  · refine (rn_ld d_M_straight_64 rfl rfl rfl rfl).trans ?_
    refine (rn_i2l d_M_straight_66).trans ?_
    refine (rn_push d_M_straight_67 zcs_lconst_0).trans ?_
    refine (rn_push d_M_straight_68 zcs_ldc2_4_78).trans ?_
    refine (rn_sI d_M_straight_71 nb_4_68 (zinv_s l_4_68 (by decide) (Nat.le_of_ble_eq_true rfl) rfl rfl (Nat.le_of_ble_eq_true rfl)) (Nat.le_of_ble_eq_true rfl) (Or.inr rfl)).trans (zbI_congr fun v8 h7 => ?_)
    refine (rn_if_eq d_M_straight_74 (t := 87) (by decide)).trans (zif ?_ ?_)
    · refine (rn_push d_M_straight_87 zcs_bipush_m9).trans ?_
      exact rn_ri d_M_straight_89 rfl
    · refine (rn_push d_M_straight_77 zcs_bipush_6).trans ?_
      refine (rn_ld d_M_straight_79 rfl rfl rfl rfl).trans ?_
      refine (rn_a2 d_M_straight_80 rfl).trans ?_
      refine (rn_ld d_M_straight_81 rfl rfl rfl rfl).trans ?_
      refine (rn_a2 d_M_straight_83 rfl).trans ?_
      refine (rn_goto d_M_straight_84 (t := 89) (by decide)).trans ?_
      exact rn_ri d_M_straight_89 rfl
theorem e_M_goesBy {X : zX} {x1 : Int32} {x2 : Int32} {h : zH} : zcf X m_M_goesBy [.ref 123, .int x1, .int x2] h = (if zin x1 7 = true then (if (h.1 124 (Int32.toNatClampNeg x1)) = 0 then (zbI (zcf X m_M_aheadOf [.ref 123, .int x2] h) fun v3 h2 => (if v3 = x1 then (if zin x1 7 = true then (if zin x1 7 = true then (some (none, ((zup h2.1 127 (Int32.toNatClampNeg x1) (zrem ((h2.1 127 (Int32.toNatClampNeg x1)) + 2) 4)), h2.2))) else none) else none) else (if zin x1 7 = true then (if zin x1 7 = true then (some (none, ((zup h2.1 127 (Int32.toNatClampNeg x1) (h2.1 127 (Int32.toNatClampNeg x1))), h2.2))) else none) else none))) else (if (h.1 124 (Int32.toNatClampNeg x1)) = 1 then (if zin x1 7 = true then (if zin x1 7 = true then (some (none, ((zup h.1 127 (Int32.toNatClampNeg x1) (zrem ((h.1 127 (Int32.toNatClampNeg x1)) + 1) 4)), h.2))) else none) else none) else (if (h.1 124 (Int32.toNatClampNeg x1)) = 2 then (if zin x1 7 = true then (zbV (zcf X m_M_stepTo [.ref 123, .int x1, .int (zrem ((h.1 127 (Int32.toNatClampNeg x1)) + 2) 4)] h) fun h6 => (some (none, h6))) else none) else (if (h.1 124 (Int32.toNatClampNeg x1)) = 3 then (if zin x1 7 = true then (if zin x1 7 = true then (some (none, ((zup h.1 127 (Int32.toNatClampNeg x1) (zrem ((h.1 127 (Int32.toNatClampNeg x1)) + 2) 4)), h.2))) else none) else none) else (if (h.1 124 (Int32.toNatClampNeg x1)) = 4 then (some (none, h)) else (if (h.1 124 (Int32.toNatClampNeg x1)) = 5 then (if zin x1 7 = true then (zbV (zcf X m_M_stepTo [.ref 123, .int x1, .int (h.1 127 (Int32.toNatClampNeg x1))] h) fun h10 => (some (none, h10))) else none) else (some (none, h)))))))) else none) := by
  refine (zcf_run (Nat.le_of_ble_eq_true rfl)).trans ?_
  show zrn X 4 m_M_goesBy 0 [some (.ref 123), some (.int x1), some (.int x2)] [] h = _
  refine (rn_ld d_M_goesBy_0 rfl rfl rfl rfl).trans ?_
  refine (rn_gr d_M_goesBy_1 f_4_7 zc_123 zr_123_1).trans ?_
  refine (rn_ld d_M_goesBy_4 rfl rfl rfl rfl).trans ?_
  refine (rn_ial d_M_goesBy_5 (by decide) zc_124).trans (zif ?_ rfl)
  refine zite (fun q1 => ?_) (fun q1 => ?_)
  · refine (rn_tsw d_M_goesBy_6 (t := 44) (by rw [q1]; decide +kernel)).trans ?_
    refine (rn_ld d_M_goesBy_44 rfl rfl rfl rfl).trans ?_
    refine (rn_gr d_M_goesBy_45 f_4_19 zc_123 zr_123_4).trans ?_
    refine (rn_ld d_M_goesBy_48 rfl rfl rfl rfl).trans ?_
    refine (rn_ld d_M_goesBy_49 rfl rfl rfl rfl).trans ?_
    refine (rn_ld d_M_goesBy_50 rfl rfl rfl rfl).trans ?_
    refine (rn_vI d_M_goesBy_51 (zinv_v l_4_97 (by decide) (Nat.le_of_ble_eq_true rfl) rfl rfl zc_123 (Nat.le_of_ble_eq_true rfl)) (Nat.le_of_ble_eq_true rfl) (Or.inl rfl)).trans (zbI_congr fun v3 h2 => ?_)
    refine (rn_ld d_M_goesBy_54 rfl rfl rfl rfl).trans ?_
    refine (rn_ic_ne d_M_goesBy_55 (t := 71) (by decide)).trans (zif ?_ ?_)
    · refine (rn_ld d_M_goesBy_58 rfl rfl rfl rfl).trans ?_
      refine (rn_gr d_M_goesBy_59 f_4_19 zc_123 zr_123_4).trans ?_
      refine (rn_ld d_M_goesBy_62 rfl rfl rfl rfl).trans ?_
      refine (rn_ial d_M_goesBy_63 (by decide) zc_127).trans (zif ?_ rfl)
      refine (rn_push d_M_goesBy_64 zcs_iconst_2).trans ?_
      refine (rn_a2 d_M_goesBy_65 rfl).trans ?_
      refine (rn_push d_M_goesBy_66 zcs_iconst_4).trans ?_
      refine (rn_a2 d_M_goesBy_67 (zar_rem (by decide))).trans ?_
      refine (rn_goto d_M_goesBy_68 (t := 77) (by decide)).trans ?_
      refine (rn_ias d_M_goesBy_77 zc_127).trans (zif ?_ rfl)
      refine (rn_goto d_M_goesBy_78 (t := 151) (by decide)).trans ?_
      exact rn_rv d_M_goesBy_151 rfl
    · refine (rn_ld d_M_goesBy_71 rfl rfl rfl rfl).trans ?_
      refine (rn_gr d_M_goesBy_72 f_4_19 zc_123 zr_123_4).trans ?_
      refine (rn_ld d_M_goesBy_75 rfl rfl rfl rfl).trans ?_
      refine (rn_ial d_M_goesBy_76 (by decide) zc_127).trans (zif ?_ rfl)
      refine (rn_ias d_M_goesBy_77 zc_127).trans (zif ?_ rfl)
      refine (rn_goto d_M_goesBy_78 (t := 151) (by decide)).trans ?_
      exact rn_rv d_M_goesBy_151 rfl
  · refine zite (fun q4 => ?_) (fun q4 => ?_)
    · refine (rn_tsw d_M_goesBy_6 (t := 81) (by rw [q4]; decide +kernel)).trans ?_
      refine (rn_ld d_M_goesBy_81 rfl rfl rfl rfl).trans ?_
      refine (rn_gr d_M_goesBy_82 f_4_19 zc_123 zr_123_4).trans ?_
      refine (rn_ld d_M_goesBy_85 rfl rfl rfl rfl).trans ?_
      refine (rn_ld d_M_goesBy_86 rfl rfl rfl rfl).trans ?_
      refine (rn_gr d_M_goesBy_87 f_4_19 zc_123 zr_123_4).trans ?_
      refine (rn_ld d_M_goesBy_90 rfl rfl rfl rfl).trans ?_
      refine (rn_ial d_M_goesBy_91 (by decide) zc_127).trans (zif ?_ rfl)
      refine (rn_push d_M_goesBy_92 zcs_iconst_1).trans ?_
      refine (rn_a2 d_M_goesBy_93 rfl).trans ?_
      refine (rn_push d_M_goesBy_94 zcs_iconst_4).trans ?_
      refine (rn_a2 d_M_goesBy_95 (zar_rem (by decide))).trans ?_
      refine (rn_ias d_M_goesBy_96 zc_127).trans (zif ?_ rfl)
      refine (rn_goto d_M_goesBy_97 (t := 151) (by decide)).trans ?_
      exact rn_rv d_M_goesBy_151 rfl
    · refine zite (fun q5 => ?_) (fun q5 => ?_)
      · refine (rn_tsw d_M_goesBy_6 (t := 100) (by rw [q5]; decide +kernel)).trans ?_
        refine (rn_ld d_M_goesBy_100 rfl rfl rfl rfl).trans ?_
        refine (rn_ld d_M_goesBy_101 rfl rfl rfl rfl).trans ?_
        refine (rn_ld d_M_goesBy_102 rfl rfl rfl rfl).trans ?_
        refine (rn_gr d_M_goesBy_103 f_4_19 zc_123 zr_123_4).trans ?_
        refine (rn_ld d_M_goesBy_106 rfl rfl rfl rfl).trans ?_
        refine (rn_ial d_M_goesBy_107 (by decide) zc_127).trans (zif ?_ rfl)
        refine (rn_push d_M_goesBy_108 zcs_iconst_2).trans ?_
        refine (rn_a2 d_M_goesBy_109 rfl).trans ?_
        refine (rn_push d_M_goesBy_110 zcs_iconst_4).trans ?_
        refine (rn_a2 d_M_goesBy_111 (zar_rem (by decide))).trans ?_
        refine (rn_vV d_M_goesBy_112 (zinv_v l_4_103 (by decide) (Nat.le_of_ble_eq_true rfl) rfl rfl zc_123 (Nat.le_of_ble_eq_true rfl)) (Nat.le_of_ble_eq_true rfl) rfl).trans (zbV_congr fun h6 => ?_)
        refine (rn_goto d_M_goesBy_115 (t := 151) (by decide)).trans ?_
        exact rn_rv d_M_goesBy_151 rfl
      · refine zite (fun q7 => ?_) (fun q7 => ?_)
        · refine (rn_tsw d_M_goesBy_6 (t := 118) (by rw [q7]; decide +kernel)).trans ?_
          refine (rn_ld d_M_goesBy_118 rfl rfl rfl rfl).trans ?_
          refine (rn_gr d_M_goesBy_119 f_4_19 zc_123 zr_123_4).trans ?_
          refine (rn_ld d_M_goesBy_122 rfl rfl rfl rfl).trans ?_
          refine (rn_ld d_M_goesBy_123 rfl rfl rfl rfl).trans ?_
          refine (rn_gr d_M_goesBy_124 f_4_19 zc_123 zr_123_4).trans ?_
          refine (rn_ld d_M_goesBy_127 rfl rfl rfl rfl).trans ?_
          refine (rn_ial d_M_goesBy_128 (by decide) zc_127).trans (zif ?_ rfl)
          refine (rn_push d_M_goesBy_129 zcs_iconst_2).trans ?_
          refine (rn_a2 d_M_goesBy_130 rfl).trans ?_
          refine (rn_push d_M_goesBy_131 zcs_iconst_4).trans ?_
          refine (rn_a2 d_M_goesBy_132 (zar_rem (by decide))).trans ?_
          refine (rn_ias d_M_goesBy_133 zc_127).trans (zif ?_ rfl)
          refine (rn_goto d_M_goesBy_134 (t := 151) (by decide)).trans ?_
          exact rn_rv d_M_goesBy_151 rfl
        · refine zite (fun q8 => ?_) (fun q8 => ?_)
          · refine (rn_tsw d_M_goesBy_6 (t := 151) (by rw [q8]; decide +kernel)).trans ?_
            exact rn_rv d_M_goesBy_151 rfl
          · refine zite (fun q9 => ?_) (fun q9 => ?_)
            · refine (rn_tsw d_M_goesBy_6 (t := 137) (by rw [q9]; decide +kernel)).trans ?_
              refine (rn_ld d_M_goesBy_137 rfl rfl rfl rfl).trans ?_
              refine (rn_ld d_M_goesBy_138 rfl rfl rfl rfl).trans ?_
              refine (rn_ld d_M_goesBy_139 rfl rfl rfl rfl).trans ?_
              refine (rn_gr d_M_goesBy_140 f_4_19 zc_123 zr_123_4).trans ?_
              refine (rn_ld d_M_goesBy_143 rfl rfl rfl rfl).trans ?_
              refine (rn_ial d_M_goesBy_144 (by decide) zc_127).trans (zif ?_ rfl)
              refine (rn_vV d_M_goesBy_145 (zinv_v l_4_103 (by decide) (Nat.le_of_ble_eq_true rfl) rfl rfl zc_123 (Nat.le_of_ble_eq_true rfl)) (Nat.le_of_ble_eq_true rfl) rfl).trans (zbV_congr fun h10 => ?_)
              refine (rn_goto d_M_goesBy_148 (t := 151) (by decide)).trans ?_
              exact rn_rv d_M_goesBy_151 rfl
            · refine (rn_tsw d_M_goesBy_6 (t := 151) (zsw_out (by have z0 := lv_neT q1 (a := 0) rfl; have z1 := lv_neT q4 (a := 1) rfl; have z2 := lv_neT q5 (a := 2) rfl; have z3 := lv_neT q7 (a := 3) rfl; have z4 := lv_neT q8 (a := 4) rfl; have z5 := lv_neT q9 (a := 5) rfl; omega) (by decide))).trans ?_
              exact rn_rv d_M_goesBy_151 rfl
theorem e_M_aheadOf {X : zX} {x1 : Int32} {h : zH} : zcf X m_M_aheadOf [.ref 123, .int x1] h = (if zin x1 7 = true then (if zin x1 7 = true then (zbI (zcf X m_M_reachOf [.ref 123, .int x1] h) fun v2 h1 => (zbI (zcf X m_M_nextFrom [.ref 123, .int (h.1 126 (Int32.toNatClampNeg x1)), .int (h.1 127 (Int32.toNatClampNeg x1)), .int v2] h1) fun v4 h3 => (some (some (.int v4), h3)))) else none) else none) := by
  refine (zcf_run (Nat.le_of_ble_eq_true rfl)).trans ?_
  show zrn X 3 m_M_aheadOf 0 [some (.ref 123), some (.int x1)] [] h = _
  refine (rn_ld d_M_aheadOf_0 rfl rfl rfl rfl).trans ?_
  refine (rn_ld d_M_aheadOf_1 rfl rfl rfl rfl).trans ?_
  refine (rn_gr d_M_aheadOf_2 f_4_16 zc_123 zr_123_3).trans ?_
  refine (rn_ld d_M_aheadOf_5 rfl rfl rfl rfl).trans ?_
  refine (rn_ial d_M_aheadOf_6 (by decide) zc_126).trans (zif ?_ rfl)
  refine (rn_ld d_M_aheadOf_7 rfl rfl rfl rfl).trans ?_
  refine (rn_gr d_M_aheadOf_8 f_4_19 zc_123 zr_123_4).trans ?_
  refine (rn_ld d_M_aheadOf_11 rfl rfl rfl rfl).trans ?_
  refine (rn_ial d_M_aheadOf_12 (by decide) zc_127).trans (zif ?_ rfl)
  refine (rn_ld d_M_aheadOf_13 rfl rfl rfl rfl).trans ?_
  refine (rn_ld d_M_aheadOf_14 rfl rfl rfl rfl).trans ?_
  refine (rn_vI d_M_aheadOf_15 (zinv_v l_4_88 (by decide) (Nat.le_of_ble_eq_true rfl) rfl rfl zc_123 (Nat.le_of_ble_eq_true rfl)) (Nat.le_of_ble_eq_true rfl) (Or.inl rfl)).trans (zbI_congr fun v2 h1 => ?_)
  refine (rn_vI d_M_aheadOf_18 (zinv_v l_4_91 (by decide) (Nat.le_of_ble_eq_true rfl) rfl rfl zc_123 (Nat.le_of_ble_eq_true rfl)) (Nat.le_of_ble_eq_true rfl) (Or.inl rfl)).trans (zbI_congr fun v4 h3 => ?_)
  exact rn_ri d_M_aheadOf_21 rfl
theorem e_M_reachOf {X : zX} {x1 : Int32} {h : zH} : zcf X m_M_reachOf [.ref 123, .int x1] h = (if zin x1 7 = true then (if (h.1 124 (Int32.toNatClampNeg x1)) = 1 then (some (some (.int 4), h)) else (if (h.1 124 (Int32.toNatClampNeg x1)) = 2 then (if zin x1 7 = true then (some (some (.int (1 + ((h.1 125 (Int32.toNatClampNeg x1)) / 2))), h)) else none) else (if (h.1 124 (Int32.toNatClampNeg x1)) = 3 then (some (some (.int 6), h)) else (if (h.1 124 (Int32.toNatClampNeg x1)) = 4 then (some (some (.int 0), h)) else (if (h.1 124 (Int32.toNatClampNeg x1)) = 5 then (if zin x1 7 = true then (some (some (.int (4 + ((h.1 125 (Int32.toNatClampNeg x1)) / 3))), h)) else none) else (some (some (.int 3), h))))))) else none) := by
  refine (zcf_run (Nat.le_of_ble_eq_true rfl)).trans ?_
  show zrn X 0 m_M_reachOf 0 [some (.ref 123), some (.int x1)] [] h = _
  refine (rn_ld d_M_reachOf_0 rfl rfl rfl rfl).trans ?_
  refine (rn_gr d_M_reachOf_1 f_4_7 zc_123 zr_123_1).trans ?_
  refine (rn_ld d_M_reachOf_4 rfl rfl rfl rfl).trans ?_
  refine (rn_ial d_M_reachOf_5 (by decide) zc_124).trans (zif ?_ rfl)
  refine zite (fun q1 => ?_) (fun q1 => ?_)
  · refine (rn_tsw d_M_reachOf_6 (t := 40) (by rw [q1]; decide +kernel)).trans ?_
    refine (rn_push d_M_reachOf_40 zcs_iconst_4).trans ?_
    exact rn_ri d_M_reachOf_41 rfl
  · refine zite (fun q2 => ?_) (fun q2 => ?_)
    · refine (rn_tsw d_M_reachOf_6 (t := 42) (by rw [q2]; decide +kernel)).trans ?_
      refine (rn_push d_M_reachOf_42 zcs_iconst_1).trans ?_
      refine (rn_ld d_M_reachOf_43 rfl rfl rfl rfl).trans ?_
      refine (rn_gr d_M_reachOf_44 f_4_13 zc_123 zr_123_2).trans ?_
      refine (rn_ld d_M_reachOf_47 rfl rfl rfl rfl).trans ?_
      refine (rn_ial d_M_reachOf_48 (by decide) zc_125).trans (zif ?_ rfl)
      refine (rn_push d_M_reachOf_49 zcs_iconst_2).trans ?_
      refine (rn_a2 d_M_reachOf_50 (zar_div (by decide))).trans ?_
      refine (rn_a2 d_M_reachOf_51 rfl).trans ?_
      exact rn_ri d_M_reachOf_52 rfl
    · refine zite (fun q3 => ?_) (fun q3 => ?_)
      · refine (rn_tsw d_M_reachOf_6 (t := 53) (by rw [q3]; decide +kernel)).trans ?_
        refine (rn_push d_M_reachOf_53 zcs_bipush_6).trans ?_
        exact rn_ri d_M_reachOf_55 rfl
      · refine zite (fun q4 => ?_) (fun q4 => ?_)
        · refine (rn_tsw d_M_reachOf_6 (t := 56) (by rw [q4]; decide +kernel)).trans ?_
          refine (rn_push d_M_reachOf_56 zcs_iconst_0).trans ?_
          exact rn_ri d_M_reachOf_57 rfl
        · refine zite (fun q5 => ?_) (fun q5 => ?_)
          · refine (rn_tsw d_M_reachOf_6 (t := 58) (by rw [q5]; decide +kernel)).trans ?_
            refine (rn_push d_M_reachOf_58 zcs_iconst_4).trans ?_
            refine (rn_ld d_M_reachOf_59 rfl rfl rfl rfl).trans ?_
            refine (rn_gr d_M_reachOf_60 f_4_13 zc_123 zr_123_2).trans ?_
            refine (rn_ld d_M_reachOf_63 rfl rfl rfl rfl).trans ?_
            refine (rn_ial d_M_reachOf_64 (by decide) zc_125).trans (zif ?_ rfl)
            refine (rn_push d_M_reachOf_65 zcs_iconst_3).trans ?_
            refine (rn_a2 d_M_reachOf_66 (zar_div (by decide))).trans ?_
            refine (rn_a2 d_M_reachOf_67 rfl).trans ?_
            exact rn_ri d_M_reachOf_68 rfl
          · refine (rn_tsw d_M_reachOf_6 (t := 69) (zsw_out (by have z1 := lv_neT q1 (a := 1) rfl; have z2 := lv_neT q2 (a := 2) rfl; have z3 := lv_neT q3 (a := 3) rfl; have z4 := lv_neT q4 (a := 4) rfl; have z5 := lv_neT q5 (a := 5) rfl; omega) (by decide))).trans ?_
            refine (rn_push d_M_reachOf_69 zcs_iconst_3).trans ?_
            exact rn_ri d_M_reachOf_70 rfl
theorem e_M_stepTo {X : zX} {x1 : Int32} {x2 : Int32} {h : zH} : zcf X m_M_stepTo [.ref 123, .int x1, .int x2] h = (if zin x1 7 = true then (zbI (zcf X m_M_straight [.int (h.1 126 (Int32.toNatClampNeg x1)), .int x2, .int 1] h) fun v2 h1 => (if v2 < 0 then (some (none, h1)) else (zbI (zcf X m_M_oneIn [.ref 123, .int v2] h1) fun v4 h3 => (if 0 ≤ v4 then (some (none, h3)) else (if zin x1 7 = true then (some (none, ((zup (zup h3.1 126 (Int32.toNatClampNeg x1) v2) 123 9 (((zup h3.1 126 (Int32.toNatClampNeg x1) v2) 123 9) ||| ((1 : Int32) <<< (x1 &&& 31)))), h3.2))) else none))))) else none) := by
  refine (zcf_run (Nat.le_of_ble_eq_true rfl)).trans ?_
  show zrn X 2 m_M_stepTo 0 [some (.ref 123), some (.int x1), some (.int x2), none] [] h = _
  refine (rn_ld d_M_stepTo_0 rfl rfl rfl rfl).trans ?_
  refine (rn_gr d_M_stepTo_1 f_4_16 zc_123 zr_123_3).trans ?_
  refine (rn_ld d_M_stepTo_4 rfl rfl rfl rfl).trans ?_
  refine (rn_ial d_M_stepTo_5 (by decide) zc_126).trans (zif ?_ rfl)
  refine (rn_ld d_M_stepTo_6 rfl rfl rfl rfl).trans ?_
  refine (rn_push d_M_stepTo_7 zcs_iconst_1).trans ?_
  refine (rn_sI d_M_stepTo_8 nb_4_80 (zinv_s l_4_80 (by decide) (Nat.le_of_ble_eq_true rfl) rfl rfl (Nat.le_of_ble_eq_true rfl)) (Nat.le_of_ble_eq_true rfl) (Or.inl rfl)).trans (zbI_congr fun v2 h1 => ?_)
  refine (rn_st d_M_stepTo_11 rfl rfl rfl (by decide) rfl (Nat.le_of_ble_eq_true rfl) (ls' := [some (.ref 123), some (.int x1), some (.int x2), some (.int v2)]) rfl).trans ?_
  refine (rn_ld d_M_stepTo_12 rfl rfl rfl rfl).trans ?_
  refine (rn_if_lt d_M_stepTo_13 (t := 43) (by decide)).trans (zif ?_ ?_)
  · exact rn_rv d_M_stepTo_43 rfl
  · refine (rn_ld d_M_stepTo_16 rfl rfl rfl rfl).trans ?_
    refine (rn_ld d_M_stepTo_17 rfl rfl rfl rfl).trans ?_
    refine (rn_vI d_M_stepTo_18 (zinv_v l_4_84 (by decide) (Nat.le_of_ble_eq_true rfl) rfl rfl zc_123 (Nat.le_of_ble_eq_true rfl)) (Nat.le_of_ble_eq_true rfl) (Or.inl rfl)).trans (zbI_congr fun v4 h3 => ?_)
    refine (rn_if_ge d_M_stepTo_21 (t := 43) (by decide)).trans (zif ?_ ?_)
    · exact rn_rv d_M_stepTo_43 rfl
    · refine (rn_ld d_M_stepTo_24 rfl rfl rfl rfl).trans ?_
      refine (rn_gr d_M_stepTo_25 f_4_16 zc_123 zr_123_3).trans ?_
      refine (rn_ld d_M_stepTo_28 rfl rfl rfl rfl).trans ?_
      refine (rn_ld d_M_stepTo_29 rfl rfl rfl rfl).trans ?_
      refine (rn_ias d_M_stepTo_30 zc_126).trans (zif ?_ rfl)
      refine (rn_ld d_M_stepTo_31 rfl rfl rfl rfl).trans ?_
      refine (rn_dup d_M_stepTo_32 rfl).trans ?_
      refine (rn_gi d_M_stepTo_33 f_4_100 zc_123).trans ?_
      refine (rn_push d_M_stepTo_36 zcs_iconst_1).trans ?_
      refine (rn_ld d_M_stepTo_37 rfl rfl rfl rfl).trans ?_
      refine (rn_a2 d_M_stepTo_38 rfl).trans ?_
      refine (rn_a2 d_M_stepTo_39 rfl).trans ?_
      refine (rn_pi d_M_stepTo_40 f_4_100 zc_123).trans ?_
      exact rn_rv d_M_stepTo_43 rfl
theorem e_M_again {X : zX} {h : zH} : zcf X m_M_again [.ref 123] h = (zbV (zcf X m_M_carryAll [.ref 123, .ref 134, .int 0] h) fun h1 => (some (none, h1))) := by
  refine (zcf_run (Nat.le_of_ble_eq_true rfl)).trans ?_
  show zrn X 2 m_M_again 0 [some (.ref 123)] [] h = _
  refine (rn_ld d_M_again_0 rfl rfl rfl rfl).trans ?_
  refine (rn_ld d_M_again_1 rfl rfl rfl rfl).trans ?_
  refine (rn_gr d_M_again_2 f_4_40 zc_123 zr_123_19).trans ?_
  refine (rn_push d_M_again_5 zcs_iconst_0).trans ?_
  refine (rn_vV d_M_again_6 (zinv_v l_4_192 (by decide) (Nat.le_of_ble_eq_true rfl) rfl rfl zc_123 (Nat.le_of_ble_eq_true rfl)) (Nat.le_of_ble_eq_true rfl) rfl).trans (zbV_congr fun h1 => ?_)
  exact rn_rv d_M_again_9 rfl
theorem e_M_image {X : zX} {h : zH} : zcf X m_M_image [.ref 123] h = (zbV (zcf X m_M_carryAll [.ref 123, .ref 135, .int 1] ((zup (zup h.1 123 7 0) 123 21 1), h.2)) fun h1 => (some (some (.int (h1.1 123 6)), h1))) := by
  refine (zcf_run (Nat.le_of_ble_eq_true rfl)).trans ?_
  show zrn X 2 m_M_image 0 [some (.ref 123)] [] h = _
  refine (rn_ld d_M_image_0 rfl rfl rfl rfl).trans ?_
  refine (rn_push d_M_image_1 zcs_iconst_0).trans ?_
  refine (rn_pi d_M_image_2 f_4_61 zc_123).trans ?_
  refine (rn_ld d_M_image_5 rfl rfl rfl rfl).trans ?_
  refine (rn_push d_M_image_6 zcs_iconst_1).trans ?_
  refine (rn_pz d_M_image_7 f_4_196 zc_123 (by decide)).trans ?_
  refine (rn_ld d_M_image_10 rfl rfl rfl rfl).trans ?_
  refine (rn_ld d_M_image_11 rfl rfl rfl rfl).trans ?_
  refine (rn_gr d_M_image_12 f_4_43 zc_123 zr_123_20).trans ?_
  refine (rn_push d_M_image_15 zcs_iconst_1).trans ?_
  refine (rn_vV d_M_image_16 (zinv_v l_4_192 (by decide) (Nat.le_of_ble_eq_true rfl) rfl rfl zc_123 (Nat.le_of_ble_eq_true rfl)) (Nat.le_of_ble_eq_true rfl) rfl).trans (zbV_congr fun h1 => ?_)
  refine (rn_ld d_M_image_19 rfl rfl rfl rfl).trans ?_
  refine (rn_gi d_M_image_20 f_4_107 zc_123).trans ?_
  exact rn_ri d_M_image_23 rfl
theorem e_M_restore {X : zX} {h : zH} : zcf X m_M_restore [.ref 123] h = (if ((zup h.1 123 7 0) 123 21) = 0 then (zbI (zcf X m_M_refuse [.ref 123, .int (-3)] ((zup h.1 123 7 0), h.2)) fun v2 h1 => (some (some (.int v2), h1))) else (zbV (zcf X m_M_carryAll [.ref 123, .ref 135, .int 0] ((zup h.1 123 7 0), h.2)) fun h3 => (some (some (.int ((zup h3.1 123 27 0) 123 6)), ((zup h3.1 123 27 0), h3.2))))) := by
  refine (zcf_run (Nat.le_of_ble_eq_true rfl)).trans ?_
  show zrn X 2 m_M_restore 0 [some (.ref 123)] [] h = _
  refine (rn_ld d_M_restore_0 rfl rfl rfl rfl).trans ?_
  refine (rn_push d_M_restore_1 zcs_iconst_0).trans ?_
  refine (rn_pi d_M_restore_2 f_4_61 zc_123).trans ?_
  refine (rn_ld d_M_restore_5 rfl rfl rfl rfl).trans ?_
  refine (rn_gz d_M_restore_6 f_4_196 zc_123).trans ?_
  refine (rn_if_ne d_M_restore_9 (t := 19) (by decide)).trans (zif ?_ ?_)
  · refine (rn_ld d_M_restore_12 rfl rfl rfl rfl).trans ?_
    refine (rn_push d_M_restore_13 zcs_bipush_m3).trans ?_
    refine (rn_vI d_M_restore_15 (zinv_v l_4_123 (by decide) (Nat.le_of_ble_eq_true rfl) rfl rfl zc_123 (Nat.le_of_ble_eq_true rfl)) (Nat.le_of_ble_eq_true rfl) (Or.inl rfl)).trans (zbI_congr fun v2 h1 => ?_)
    exact rn_ri d_M_restore_18 rfl
  · refine (rn_ld d_M_restore_19 rfl rfl rfl rfl).trans ?_
    refine (rn_ld d_M_restore_20 rfl rfl rfl rfl).trans ?_
    refine (rn_gr d_M_restore_21 f_4_43 zc_123 zr_123_20).trans ?_
    refine (rn_push d_M_restore_24 zcs_iconst_0).trans ?_
    refine (rn_vV d_M_restore_25 (zinv_v l_4_192 (by decide) (Nat.le_of_ble_eq_true rfl) rfl rfl zc_123 (Nat.le_of_ble_eq_true rfl)) (Nat.le_of_ble_eq_true rfl) rfl).trans (zbV_congr fun h3 => ?_)
    refine (rn_ld d_M_restore_28 rfl rfl rfl rfl).trans ?_
    refine (rn_push d_M_restore_29 zcs_iconst_0).trans ?_
    refine (rn_pi d_M_restore_30 f_4_177 zc_123).trans ?_
    refine (rn_ld d_M_restore_33 rfl rfl rfl rfl).trans ?_
    refine (rn_gi d_M_restore_34 f_4_107 zc_123).trans ?_
    exact rn_ri d_M_restore_37 rfl
theorem b_M_back_31 {X : zX} {x1 : Int32} {h : zH} : zrn X 2 m_M_back 31 [some (.ref 123), some (.int x1)] [] h = (if 37 ≤ x1 then (zbV (zcf X m_M_carryAll [.ref 123, .ref 137, .int 0] h) fun h1 => (some (some (.int (h1.1 123 27)), h1))) else (if zin ((37 * (h.1 123 27)) + x1) 296 = true then (if zin x1 37 = true then zrn X 2 m_M_back 31 [some (.ref 123), some (.int (x1 + 1))] [] ((zup h.1 137 (Int32.toNatClampNeg x1) (h.1 136 (Int32.toNatClampNeg ((37 * (h.1 123 27)) + x1)))), h.2) else none) else none)) := by
  refine (rn_ld d_M_back_31 rfl rfl rfl rfl).trans ?_
  refine (rn_push d_M_back_32 zcs_bipush_37).trans ?_
  refine (rn_ic_ge d_M_back_34 (t := 63) (by decide)).trans (zif ?_ ?_)
  · refine (rn_ld d_M_back_63 rfl rfl rfl rfl).trans ?_
    refine (rn_ld d_M_back_64 rfl rfl rfl rfl).trans ?_
    refine (rn_gr d_M_back_65 f_4_49 zc_123 zr_123_26).trans ?_
    refine (rn_push d_M_back_68 zcs_iconst_0).trans ?_
    refine (rn_vV d_M_back_69 (zinv_v l_4_192 (by decide) (Nat.le_of_ble_eq_true rfl) rfl rfl zc_123 (Nat.le_of_ble_eq_true rfl)) (Nat.le_of_ble_eq_true rfl) rfl).trans (zbV_congr fun h1 => ?_)
    refine (rn_ld d_M_back_72 rfl rfl rfl rfl).trans ?_
    refine (rn_gi d_M_back_73 f_4_177 zc_123).trans ?_
    exact rn_ri d_M_back_76 rfl
  · refine (rn_ld d_M_back_37 rfl rfl rfl rfl).trans ?_
    refine (rn_gr d_M_back_38 f_4_49 zc_123 zr_123_26).trans ?_
    refine (rn_ld d_M_back_41 rfl rfl rfl rfl).trans ?_
    refine (rn_ld d_M_back_42 rfl rfl rfl rfl).trans ?_
    refine (rn_gr d_M_back_43 f_4_46 zc_123 zr_123_25).trans ?_
    refine (rn_push d_M_back_46 zcs_bipush_37).trans ?_
    refine (rn_ld d_M_back_48 rfl rfl rfl rfl).trans ?_
    refine (rn_gi d_M_back_49 f_4_177 zc_123).trans ?_
    refine (rn_a2 d_M_back_52 rfl).trans ?_
    refine (rn_ld d_M_back_53 rfl rfl rfl rfl).trans ?_
    refine (rn_a2 d_M_back_54 rfl).trans ?_
    refine (rn_ial d_M_back_55 (by decide) zc_136).trans (zif ?_ rfl)
    refine (rn_ias d_M_back_56 zc_137).trans (zif ?_ rfl)
    refine (rn_inc d_M_back_57 rfl (c := 1) (by decide) (ls' := [some (.ref 123), some (.int (x1 + 1))]) rfl).trans ?_
    refine (rn_goto d_M_back_60 (t := 31) (by decide)).trans ?_
    rfl
theorem e_M_back {X : zX} {h : zH} : zcf X m_M_back [.ref 123] h = (if ((zup h.1 123 7 0) 123 27) = 0 then (zbI (zcf X m_M_refuse [.ref 123, .int (-3)] ((zup h.1 123 7 0), h.2)) fun v2 h1 => (some (some (.int v2), h1))) else zrn X 2 m_M_back 31 [some (.ref 123), some (.int 0)] [] ((zup (zup h.1 123 7 0) 123 27 (((zup h.1 123 7 0) 123 27) - 1)), h.2)) := by
  refine (zcf_run (Nat.le_of_ble_eq_true rfl)).trans ?_
  show zrn X 2 m_M_back 0 [some (.ref 123), none] [] h = _
  refine (rn_ld d_M_back_0 rfl rfl rfl rfl).trans ?_
  refine (rn_push d_M_back_1 zcs_iconst_0).trans ?_
  refine (rn_pi d_M_back_2 f_4_61 zc_123).trans ?_
  refine (rn_ld d_M_back_5 rfl rfl rfl rfl).trans ?_
  refine (rn_gi d_M_back_6 f_4_177 zc_123).trans ?_
  refine (rn_if_ne d_M_back_9 (t := 19) (by decide)).trans (zif ?_ ?_)
  · refine (rn_ld d_M_back_12 rfl rfl rfl rfl).trans ?_
    refine (rn_push d_M_back_13 zcs_bipush_m3).trans ?_
    refine (rn_vI d_M_back_15 (zinv_v l_4_123 (by decide) (Nat.le_of_ble_eq_true rfl) rfl rfl zc_123 (Nat.le_of_ble_eq_true rfl)) (Nat.le_of_ble_eq_true rfl) (Or.inl rfl)).trans (zbI_congr fun v2 h1 => ?_)
    exact rn_ri d_M_back_18 rfl
  · refine (rn_ld d_M_back_19 rfl rfl rfl rfl).trans ?_
    refine (rn_dup d_M_back_20 rfl).trans ?_
    refine (rn_gi d_M_back_21 f_4_177 zc_123).trans ?_
    refine (rn_push d_M_back_24 zcs_iconst_1).trans ?_
    refine (rn_a2 d_M_back_25 rfl).trans ?_
    refine (rn_pi d_M_back_26 f_4_177 zc_123).trans ?_
    refine (rn_push d_M_back_29 zcs_iconst_0).trans ?_
    refine (rn_st d_M_back_30 rfl rfl rfl (by decide) rfl (Nat.le_of_ble_eq_true rfl) (ls' := [some (.ref 123), some (.int 0)]) rfl).trans ?_
    rfl
theorem e_M_personOf {X : zX} {x1 : Int32} {x2 : Int32} {h : zH} : zcf X m_M_personOf [.ref 123, .int x1, .int x2] h = (zbI (zcf X m_M_isOne [.ref 123, .int x1] ((zup h.1 123 7 0), h.2)) fun v2 h1 => (if v2 = 0 then (zbI (zcf X m_M_isOne [.ref 123, .int x1] h1) fun v4 h3 => (zbI (zcf X m_M_refuse [.ref 123, .int (if v4 = 0 then (-1 : Int32) else (-2))] h3) fun v7 h6 => (some (some (.int v7), h6)))) else (zbI (zcf X m_M_in [.long (Int32.toInt64 x2), .long 0, .long 6] h1) fun v9 h8 => (if v9 = 0 then (zbI (zcf X m_M_isOne [.ref 123, .int x1] h8) fun v11 h10 => (zbI (zcf X m_M_refuse [.ref 123, .int (if v11 = 0 then (-1 : Int32) else (-2))] h10) fun v14 h13 => (some (some (.int v14), h13)))) else (if x2 = 0 then (if zin x1 7 = true then (some (some (.int (h8.1 124 (Int32.toNatClampNeg x1))), h8)) else none) else (if x2 = 1 then (if zin x1 7 = true then (some (some (.int (h8.1 125 (Int32.toNatClampNeg x1))), h8)) else none) else (if x2 = 2 then (if zin x1 7 = true then (some (some (.int (h8.1 126 (Int32.toNatClampNeg x1))), h8)) else none) else (if x2 = 3 then (if zin x1 7 = true then (some (some (.int (h8.1 127 (Int32.toNatClampNeg x1))), h8)) else none) else (if x2 = 4 then (if zin x1 7 = true then (some (some (.int (h8.1 128 (Int32.toNatClampNeg x1))), h8)) else none) else (if x2 = 5 then (zbI (zcf X m_M_reachOf [.ref 123, .int x1] h8) fun v22 h21 => (some (some (.int v22), h21))) else (zbI (zcf X m_M_depthOf [.ref 123, .int x1] h8) fun v24 h23 => (some (some (.int v24), h23))))))))))))) := by
  refine (zcf_run (Nat.le_of_ble_eq_true rfl)).trans ?_
  show zrn X 2 m_M_personOf 0 [some (.ref 123), some (.int x1), some (.int x2)] [] h = _
  refine (rn_ld d_M_personOf_0 rfl rfl rfl rfl).trans ?_
  refine (rn_push d_M_personOf_1 zcs_iconst_0).trans ?_
  refine (rn_pi d_M_personOf_2 f_4_61 zc_123).trans ?_
  refine (rn_ld d_M_personOf_5 rfl rfl rfl rfl).trans ?_
  refine (rn_ld d_M_personOf_6 rfl rfl rfl rfl).trans ?_
  refine (rn_vI d_M_personOf_7 (zinv_v l_4_72 (by decide) (Nat.le_of_ble_eq_true rfl) rfl rfl zc_123 (Nat.le_of_ble_eq_true rfl)) (Nat.le_of_ble_eq_true rfl) (Or.inr rfl)).trans (zbI_congr fun v2 h1 => ?_)
  refine (rn_if_eq d_M_personOf_10 (t := 25) (by decide)).trans (zif ?_ ?_)
  · refine (rn_ld d_M_personOf_25 rfl rfl rfl rfl).trans ?_
    refine (rn_ld d_M_personOf_26 rfl rfl rfl rfl).trans ?_
    refine (rn_ld d_M_personOf_27 rfl rfl rfl rfl).trans ?_
    refine (rn_vI d_M_personOf_28 (zinv_v l_4_72 (by decide) (Nat.le_of_ble_eq_true rfl) rfl rfl zc_123 (Nat.le_of_ble_eq_true rfl)) (Nat.le_of_ble_eq_true rfl) (Or.inr rfl)).trans (zbI_congr fun v4 h3 => ?_)
    refine Eq.trans (b := zrn X 2 m_M_personOf 40 [some (.ref 123), some (.int x1), some (.int x2)] [.int (if v4 = 0 then (-1 : Int32) else (-2)), .ref 123] h3) ?_ ?_
    · refine (rn_if_eq d_M_personOf_31 (t := 39) (by decide)).trans ?_
      by_cases q5 : v4 = 0
      · simp only [if_pos q5]
        refine (rn_push d_M_personOf_39 zcs_iconst_m1).trans ?_
        all_goals rfl
      · simp only [if_neg q5]
        refine (rn_push d_M_personOf_34 zcs_bipush_m2).trans ?_
        refine (rn_goto d_M_personOf_36 (t := 40) (by decide)).trans ?_
        all_goals rfl
    refine (rn_vI d_M_personOf_40 (zinv_v l_4_123 (by decide) (Nat.le_of_ble_eq_true rfl) rfl rfl zc_123 (Nat.le_of_ble_eq_true rfl)) (Nat.le_of_ble_eq_true rfl) (Or.inl rfl)).trans (zbI_congr fun v7 h6 => ?_)
    exact rn_ri d_M_personOf_43 rfl
  · refine (rn_ld d_M_personOf_13 rfl rfl rfl rfl).trans ?_
    refine (rn_i2l d_M_personOf_14).trans ?_
    refine (rn_push d_M_personOf_15 zcs_lconst_0).trans ?_
    refine (rn_push d_M_personOf_16 zcs_ldc2_4_199).trans ?_
    refine (rn_sI d_M_personOf_19 nb_4_68 (zinv_s l_4_68 (by decide) (Nat.le_of_ble_eq_true rfl) rfl rfl (Nat.le_of_ble_eq_true rfl)) (Nat.le_of_ble_eq_true rfl) (Or.inr rfl)).trans (zbI_congr fun v9 h8 => ?_)
    refine (rn_if_ne d_M_personOf_22 (t := 44) (by decide)).trans (zif ?_ ?_)
    · refine (rn_ld d_M_personOf_25 rfl rfl rfl rfl).trans ?_
      refine (rn_ld d_M_personOf_26 rfl rfl rfl rfl).trans ?_
      refine (rn_ld d_M_personOf_27 rfl rfl rfl rfl).trans ?_
      refine (rn_vI d_M_personOf_28 (zinv_v l_4_72 (by decide) (Nat.le_of_ble_eq_true rfl) rfl rfl zc_123 (Nat.le_of_ble_eq_true rfl)) (Nat.le_of_ble_eq_true rfl) (Or.inr rfl)).trans (zbI_congr fun v11 h10 => ?_)
      refine Eq.trans (b := zrn X 2 m_M_personOf 40 [some (.ref 123), some (.int x1), some (.int x2)] [.int (if v11 = 0 then (-1 : Int32) else (-2)), .ref 123] h10) ?_ ?_
      · refine (rn_if_eq d_M_personOf_31 (t := 39) (by decide)).trans ?_
        by_cases q12 : v11 = 0
        · simp only [if_pos q12]
          refine (rn_push d_M_personOf_39 zcs_iconst_m1).trans ?_
          all_goals rfl
        · simp only [if_neg q12]
          refine (rn_push d_M_personOf_34 zcs_bipush_m2).trans ?_
          refine (rn_goto d_M_personOf_36 (t := 40) (by decide)).trans ?_
          all_goals rfl
      refine (rn_vI d_M_personOf_40 (zinv_v l_4_123 (by decide) (Nat.le_of_ble_eq_true rfl) rfl rfl zc_123 (Nat.le_of_ble_eq_true rfl)) (Nat.le_of_ble_eq_true rfl) (Or.inl rfl)).trans (zbI_congr fun v14 h13 => ?_)
      exact rn_ri d_M_personOf_43 rfl
    · refine (rn_ld d_M_personOf_44 rfl rfl rfl rfl).trans ?_
      refine zite (fun q15 => ?_) (fun q15 => ?_)
      · refine (rn_tsw d_M_personOf_45 (t := 84) (by rw [q15]; decide +kernel)).trans ?_
        refine (rn_ld d_M_personOf_84 rfl rfl rfl rfl).trans ?_
        refine (rn_gr d_M_personOf_85 f_4_7 zc_123 zr_123_1).trans ?_
        refine (rn_ld d_M_personOf_88 rfl rfl rfl rfl).trans ?_
        refine (rn_ial d_M_personOf_89 (by decide) zc_124).trans (zif ?_ rfl)
        exact rn_ri d_M_personOf_90 rfl
      · refine zite (fun q16 => ?_) (fun q16 => ?_)
        · refine (rn_tsw d_M_personOf_45 (t := 91) (by rw [q16]; decide +kernel)).trans ?_
          refine (rn_ld d_M_personOf_91 rfl rfl rfl rfl).trans ?_
          refine (rn_gr d_M_personOf_92 f_4_13 zc_123 zr_123_2).trans ?_
          refine (rn_ld d_M_personOf_95 rfl rfl rfl rfl).trans ?_
          refine (rn_ial d_M_personOf_96 (by decide) zc_125).trans (zif ?_ rfl)
          exact rn_ri d_M_personOf_97 rfl
        · refine zite (fun q17 => ?_) (fun q17 => ?_)
          · refine (rn_tsw d_M_personOf_45 (t := 98) (by rw [q17]; decide +kernel)).trans ?_
            refine (rn_ld d_M_personOf_98 rfl rfl rfl rfl).trans ?_
            refine (rn_gr d_M_personOf_99 f_4_16 zc_123 zr_123_3).trans ?_
            refine (rn_ld d_M_personOf_102 rfl rfl rfl rfl).trans ?_
            refine (rn_ial d_M_personOf_103 (by decide) zc_126).trans (zif ?_ rfl)
            exact rn_ri d_M_personOf_104 rfl
          · refine zite (fun q18 => ?_) (fun q18 => ?_)
            · refine (rn_tsw d_M_personOf_45 (t := 105) (by rw [q18]; decide +kernel)).trans ?_
              refine (rn_ld d_M_personOf_105 rfl rfl rfl rfl).trans ?_
              refine (rn_gr d_M_personOf_106 f_4_19 zc_123 zr_123_4).trans ?_
              refine (rn_ld d_M_personOf_109 rfl rfl rfl rfl).trans ?_
              refine (rn_ial d_M_personOf_110 (by decide) zc_127).trans (zif ?_ rfl)
              exact rn_ri d_M_personOf_111 rfl
            · refine zite (fun q19 => ?_) (fun q19 => ?_)
              · refine (rn_tsw d_M_personOf_45 (t := 112) (by rw [q19]; decide +kernel)).trans ?_
                refine (rn_ld d_M_personOf_112 rfl rfl rfl rfl).trans ?_
                refine (rn_gr d_M_personOf_113 f_4_22 zc_123 zr_123_5).trans ?_
                refine (rn_ld d_M_personOf_116 rfl rfl rfl rfl).trans ?_
                refine (rn_ial d_M_personOf_117 (by decide) zc_128).trans (zif ?_ rfl)
                exact rn_ri d_M_personOf_118 rfl
              · refine zite (fun q20 => ?_) (fun q20 => ?_)
                · refine (rn_tsw d_M_personOf_45 (t := 119) (by rw [q20]; decide +kernel)).trans ?_
                  refine (rn_ld d_M_personOf_119 rfl rfl rfl rfl).trans ?_
                  refine (rn_ld d_M_personOf_120 rfl rfl rfl rfl).trans ?_
                  refine (rn_vI d_M_personOf_121 (zinv_v l_4_88 (by decide) (Nat.le_of_ble_eq_true rfl) rfl rfl zc_123 (Nat.le_of_ble_eq_true rfl)) (Nat.le_of_ble_eq_true rfl) (Or.inl rfl)).trans (zbI_congr fun v22 h21 => ?_)
                  exact rn_ri d_M_personOf_124 rfl
                · refine (rn_tsw d_M_personOf_45 (t := 125) (zsw_out (by have z0 := lv_neT q15 (a := 0) rfl; have z1 := lv_neT q16 (a := 1) rfl; have z2 := lv_neT q17 (a := 2) rfl; have z3 := lv_neT q18 (a := 3) rfl; have z4 := lv_neT q19 (a := 4) rfl; have z5 := lv_neT q20 (a := 5) rfl; omega) (by decide))).trans ?_
                  refine (rn_ld d_M_personOf_125 rfl rfl rfl rfl).trans ?_
                  refine (rn_ld d_M_personOf_126 rfl rfl rfl rfl).trans ?_
                  refine (rn_vI d_M_personOf_127 (zinv_v l_4_94 (by decide) (Nat.le_of_ble_eq_true rfl) rfl rfl zc_123 (Nat.le_of_ble_eq_true rfl)) (Nat.le_of_ble_eq_true rfl) (Or.inl rfl)).trans (zbI_congr fun v24 h23 => ?_)
                  exact rn_ri d_M_personOf_130 rfl
theorem e_M_person {X : zX} {x1 : Int32} {x2 : Int32} {x3 : Int32} {x4 : Int32} {h : zH} : zcf X m_M_person [.ref 123, .int x1, .int x2, .int x3, .int x4] h = (zbI (zcf X m_M_in [.long (Int32.toInt64 x1), .long 0, .long 5] ((zup h.1 123 7 0), h.2)) fun v2 h1 => (if v2 = 0 then (zbI (zcf X m_M_refuse [.ref 123, .int (-2)] h1) fun v4 h3 => (some (some (.int v4), h3))) else (zbI (zcf X m_M_wrongNumber [.int x2, .int 0, .int 9] h1) fun v6 h5 => (if (if v6 = 0 then (if (h5.1 123 0) = 6 then (-6 : Int32) else v6) else v6) = 0 then (zbI (zcf X m_M_isCell [.int x3] h5) fun v10 h9 => (if v10 = 0 then (zbI (zcf X m_M_refuse [.ref 123, .int (-1)] h9) fun v12 h11 => (some (some (.int v12), h11))) else (zbI (zcf X m_M_in [.long (Int32.toInt64 x4), .long 0, .long 3] h9) fun v14 h13 => (if (if v14 = 0 then (-1 : Int32) else (if v6 = 0 then (if (h5.1 123 0) = 6 then (-6 : Int32) else v6) else v6)) = 0 then (zbI (zcf X m_M_oneIn [.ref 123, .int x3] h13) fun v17 h16 => (if 0 ≤ (if v17 < 0 then (if v14 = 0 then (-1 : Int32) else (if v6 = 0 then (if (h5.1 123 0) = 6 then (-6 : Int32) else v6) else v6)) else (-3)) then (zbV (zcf X m_M_oneComes [.ref 123, .int x1, .int x2, .int x3, .int x4] h16) fun h19 => (some (some (.int (((zup h19.1 123 27 0) 123 0) - 1)), ((zup h19.1 123 27 0), h19.2)))) else (zbI (zcf X m_M_refuse [.ref 123, .int (if v17 < 0 then (if v14 = 0 then (-1 : Int32) else (if v6 = 0 then (if (h5.1 123 0) = 6 then (-6 : Int32) else v6) else v6)) else (-3))] h16) fun v21 h20 => (some (some (.int v21), h20))))) else (if 0 ≤ (if v14 = 0 then (-1 : Int32) else (if v6 = 0 then (if (h5.1 123 0) = 6 then (-6 : Int32) else v6) else v6)) then (zbV (zcf X m_M_oneComes [.ref 123, .int x1, .int x2, .int x3, .int x4] h13) fun h22 => (some (some (.int (((zup h22.1 123 27 0) 123 0) - 1)), ((zup h22.1 123 27 0), h22.2)))) else (zbI (zcf X m_M_refuse [.ref 123, .int (if v14 = 0 then (-1 : Int32) else (if v6 = 0 then (if (h5.1 123 0) = 6 then (-6 : Int32) else v6) else v6))] h13) fun v24 h23 => (some (some (.int v24), h23)))))))) else (if (if v6 = 0 then (if (h5.1 123 0) = 6 then (-6 : Int32) else v6) else v6) = 0 then (zbI (zcf X m_M_oneIn [.ref 123, .int x3] h5) fun v26 h25 => (if 0 ≤ (if v26 < 0 then (if v6 = 0 then (if (h5.1 123 0) = 6 then (-6 : Int32) else v6) else v6) else (-3)) then (zbV (zcf X m_M_oneComes [.ref 123, .int x1, .int x2, .int x3, .int x4] h25) fun h28 => (some (some (.int (((zup h28.1 123 27 0) 123 0) - 1)), ((zup h28.1 123 27 0), h28.2)))) else (zbI (zcf X m_M_refuse [.ref 123, .int (if v26 < 0 then (if v6 = 0 then (if (h5.1 123 0) = 6 then (-6 : Int32) else v6) else v6) else (-3))] h25) fun v30 h29 => (some (some (.int v30), h29))))) else (if 0 ≤ (if v6 = 0 then (if (h5.1 123 0) = 6 then (-6 : Int32) else v6) else v6) then (zbV (zcf X m_M_oneComes [.ref 123, .int x1, .int x2, .int x3, .int x4] h5) fun h31 => (some (some (.int (((zup h31.1 123 27 0) 123 0) - 1)), ((zup h31.1 123 27 0), h31.2)))) else (zbI (zcf X m_M_refuse [.ref 123, .int (if v6 = 0 then (if (h5.1 123 0) = 6 then (-6 : Int32) else v6) else v6)] h5) fun v33 h32 => (some (some (.int v33), h32))))))))) := by
  refine (zcf_run (Nat.le_of_ble_eq_true rfl)).trans ?_
  show zrn X 2 m_M_person 0 [some (.ref 123), some (.int x1), some (.int x2), some (.int x3), some (.int x4), none] [] h = _
  refine (rn_ld d_M_person_0 rfl rfl rfl rfl).trans ?_
  refine (rn_push d_M_person_1 zcs_iconst_0).trans ?_
  refine (rn_pi d_M_person_2 f_4_61 zc_123).trans ?_
  refine (rn_ld d_M_person_5 rfl rfl rfl rfl).trans ?_
  refine (rn_i2l d_M_person_6).trans ?_
  refine (rn_push d_M_person_7 zcs_lconst_0).trans ?_
  refine (rn_push d_M_person_8 zcs_ldc2_4_78).trans ?_
  refine (rn_sI d_M_person_11 nb_4_68 (zinv_s l_4_68 (by decide) (Nat.le_of_ble_eq_true rfl) rfl rfl (Nat.le_of_ble_eq_true rfl)) (Nat.le_of_ble_eq_true rfl) (Or.inr rfl)).trans (zbI_congr fun v2 h1 => ?_)
  refine (rn_if_eq d_M_person_14 (t := 27) (by decide)).trans (zif ?_ ?_)
  · refine (rn_push d_M_person_27 zcs_bipush_m2).trans ?_
    refine (rn_st d_M_person_29 rfl rfl rfl (by decide) rfl (Nat.le_of_ble_eq_true rfl) (ls' := [some (.ref 123), some (.int x1), some (.int x2), some (.int x3), some (.int x4), some (.int (-2))]) rfl).trans ?_
    refine (rn_ld d_M_person_31 rfl rfl rfl rfl).trans ?_
    refine ((rn_if_ne d_M_person_33 (t := 50) (by decide)).trans (if_neg (by decide))).trans ?_
    refine (rn_ld d_M_person_50 rfl rfl rfl rfl).trans ?_
    refine (rn_st d_M_person_52 rfl rfl rfl (by decide) rfl (Nat.le_of_ble_eq_true rfl) (ls' := [some (.ref 123), some (.int x1), some (.int x2), some (.int x3), some (.int x4), some (.int (-2))]) rfl).trans ?_
    refine (rn_ld d_M_person_54 rfl rfl rfl rfl).trans ?_
    refine ((rn_if_ne d_M_person_56 (t := 83) (by decide)).trans (if_neg (by decide))).trans ?_
    refine (rn_ld d_M_person_83 rfl rfl rfl rfl).trans ?_
    refine (rn_st d_M_person_85 rfl rfl rfl (by decide) rfl (Nat.le_of_ble_eq_true rfl) (ls' := [some (.ref 123), some (.int x1), some (.int x2), some (.int x3), some (.int x4), some (.int (-2))]) rfl).trans ?_
    refine (rn_ld d_M_person_87 rfl rfl rfl rfl).trans ?_
    refine ((rn_if_ne d_M_person_89 (t := 105) (by decide)).trans (if_neg (by decide))).trans ?_
    refine (rn_ld d_M_person_105 rfl rfl rfl rfl).trans ?_
    refine (rn_st d_M_person_107 rfl rfl rfl (by decide) rfl (Nat.le_of_ble_eq_true rfl) (ls' := [some (.ref 123), some (.int x1), some (.int x2), some (.int x3), some (.int x4), some (.int (-2))]) rfl).trans ?_
    refine (rn_ld d_M_person_109 rfl rfl rfl rfl).trans ?_
    refine ((rn_if_ge d_M_person_111 (t := 121) (by decide)).trans (if_neg (by decide))).trans ?_
    refine (rn_ld d_M_person_114 rfl rfl rfl rfl).trans ?_
    refine (rn_ld d_M_person_115 rfl rfl rfl rfl).trans ?_
    refine (rn_vI d_M_person_117 (zinv_v l_4_123 (by decide) (Nat.le_of_ble_eq_true rfl) rfl rfl zc_123 (Nat.le_of_ble_eq_true rfl)) (Nat.le_of_ble_eq_true rfl) (Or.inl rfl)).trans (zbI_congr fun v4 h3 => ?_)
    exact rn_ri d_M_person_120 rfl
  · refine (rn_ld d_M_person_17 rfl rfl rfl rfl).trans ?_
    refine (rn_push d_M_person_18 zcs_iconst_0).trans ?_
    refine (rn_push d_M_person_19 zcs_bipush_9).trans ?_
    refine (rn_sI d_M_person_21 nb_4_201 (zinv_s l_4_201 (by decide) (Nat.le_of_ble_eq_true rfl) rfl rfl (Nat.le_of_ble_eq_true rfl)) (Nat.le_of_ble_eq_true rfl) (Or.inl rfl)).trans (zbI_congr fun v6 h5 => ?_)
    refine (rn_goto d_M_person_24 (t := 29) (by decide)).trans ?_
    refine (rn_st d_M_person_29 rfl rfl rfl (by decide) rfl (Nat.le_of_ble_eq_true rfl) (ls' := [some (.ref 123), some (.int x1), some (.int x2), some (.int x3), some (.int x4), some (.int v6)]) rfl).trans ?_
    refine (rn_ld d_M_person_31 rfl rfl rfl rfl).trans ?_
    refine Eq.trans (b := zrn X 2 m_M_person 52 [some (.ref 123), some (.int x1), some (.int x2), some (.int x3), some (.int x4), some (.int v6)] [.int (if v6 = 0 then (if (h5.1 123 0) = 6 then (-6 : Int32) else v6) else v6)] h5) ?_ ?_
    · refine (rn_if_ne d_M_person_33 (t := 50) (by decide)).trans ?_
      by_cases q7 : v6 = 0
      · simp only [if_pos q7]
        refine (rn_ld d_M_person_36 rfl rfl rfl rfl).trans ?_
        refine (rn_gi d_M_person_37 f_4_65 zc_123).trans ?_
        refine (rn_push d_M_person_40 zcs_bipush_6).trans ?_
        refine (rn_ic_ne d_M_person_42 (t := 50) (by decide)).trans ?_
        by_cases q8 : (h5.1 123 0) = 6
        · simp only [if_pos q8]
          refine (rn_push d_M_person_45 zcs_bipush_m6).trans ?_
          refine (rn_goto d_M_person_47 (t := 52) (by decide)).trans ?_
          all_goals rfl
        · simp only [if_neg q8]
          refine (rn_ld d_M_person_50 rfl rfl rfl rfl).trans ?_
          all_goals rfl
      · simp only [if_neg q7]
        refine (rn_ld d_M_person_50 rfl rfl rfl rfl).trans ?_
        all_goals rfl
    refine (rn_st d_M_person_52 rfl rfl rfl (by decide) rfl (Nat.le_of_ble_eq_true rfl) (ls' := [some (.ref 123), some (.int x1), some (.int x2), some (.int x3), some (.int x4), some (.int (if v6 = 0 then (if (h5.1 123 0) = 6 then (-6 : Int32) else v6) else v6))]) rfl).trans ?_
    refine (rn_ld d_M_person_54 rfl rfl rfl rfl).trans ?_
    refine (rn_if_ne d_M_person_56 (t := 83) (by decide)).trans (zif ?_ ?_)
    · refine (rn_ld d_M_person_59 rfl rfl rfl rfl).trans ?_
      refine (rn_sI d_M_person_60 nb_4_204 (zinv_s l_4_204 (by decide) (Nat.le_of_ble_eq_true rfl) rfl rfl (Nat.le_of_ble_eq_true rfl)) (Nat.le_of_ble_eq_true rfl) (Or.inr rfl)).trans (zbI_congr fun v10 h9 => ?_)
      refine (rn_if_eq d_M_person_63 (t := 79) (by decide)).trans (zif ?_ ?_)
      · refine (rn_push d_M_person_79 zcs_iconst_m1).trans ?_
        refine (rn_goto d_M_person_80 (t := 85) (by decide)).trans ?_
        refine (rn_st d_M_person_85 rfl rfl rfl (by decide) rfl (Nat.le_of_ble_eq_true rfl) (ls' := [some (.ref 123), some (.int x1), some (.int x2), some (.int x3), some (.int x4), some (.int (-1))]) rfl).trans ?_
        refine (rn_ld d_M_person_87 rfl rfl rfl rfl).trans ?_
        refine ((rn_if_ne d_M_person_89 (t := 105) (by decide)).trans (if_neg (by decide))).trans ?_
        refine (rn_ld d_M_person_105 rfl rfl rfl rfl).trans ?_
        refine (rn_st d_M_person_107 rfl rfl rfl (by decide) rfl (Nat.le_of_ble_eq_true rfl) (ls' := [some (.ref 123), some (.int x1), some (.int x2), some (.int x3), some (.int x4), some (.int (-1))]) rfl).trans ?_
        refine (rn_ld d_M_person_109 rfl rfl rfl rfl).trans ?_
        refine ((rn_if_ge d_M_person_111 (t := 121) (by decide)).trans (if_neg (by decide))).trans ?_
        refine (rn_ld d_M_person_114 rfl rfl rfl rfl).trans ?_
        refine (rn_ld d_M_person_115 rfl rfl rfl rfl).trans ?_
        refine (rn_vI d_M_person_117 (zinv_v l_4_123 (by decide) (Nat.le_of_ble_eq_true rfl) rfl rfl zc_123 (Nat.le_of_ble_eq_true rfl)) (Nat.le_of_ble_eq_true rfl) (Or.inl rfl)).trans (zbI_congr fun v12 h11 => ?_)
        exact rn_ri d_M_person_120 rfl
      · refine (rn_ld d_M_person_66 rfl rfl rfl rfl).trans ?_
        refine (rn_i2l d_M_person_68).trans ?_
        refine (rn_push d_M_person_69 zcs_lconst_0).trans ?_
        refine (rn_push d_M_person_70 zcs_ldc2_4_207).trans ?_
        refine (rn_sI d_M_person_73 nb_4_68 (zinv_s l_4_68 (by decide) (Nat.le_of_ble_eq_true rfl) rfl rfl (Nat.le_of_ble_eq_true rfl)) (Nat.le_of_ble_eq_true rfl) (Or.inr rfl)).trans (zbI_congr fun v14 h13 => ?_)
        refine Eq.trans (b := zrn X 2 m_M_person 85 [some (.ref 123), some (.int x1), some (.int x2), some (.int x3), some (.int x4), some (.int (if v6 = 0 then (if (h5.1 123 0) = 6 then (-6 : Int32) else v6) else v6))] [.int (if v14 = 0 then (-1 : Int32) else (if v6 = 0 then (if (h5.1 123 0) = 6 then (-6 : Int32) else v6) else v6))] h13) ?_ ?_
        · refine (rn_if_ne d_M_person_76 (t := 83) (by decide)).trans ?_
          by_cases q15 : v14 = 0
          · simp only [if_pos q15]
            refine (rn_push d_M_person_79 zcs_iconst_m1).trans ?_
            refine (rn_goto d_M_person_80 (t := 85) (by decide)).trans ?_
            all_goals rfl
          · simp only [if_neg q15]
            refine (rn_ld d_M_person_83 rfl rfl rfl rfl).trans ?_
            all_goals rfl
        refine (rn_st d_M_person_85 rfl rfl rfl (by decide) rfl (Nat.le_of_ble_eq_true rfl) (ls' := [some (.ref 123), some (.int x1), some (.int x2), some (.int x3), some (.int x4), some (.int (if v14 = 0 then (-1 : Int32) else (if v6 = 0 then (if (h5.1 123 0) = 6 then (-6 : Int32) else v6) else v6)))]) rfl).trans ?_
        refine (rn_ld d_M_person_87 rfl rfl rfl rfl).trans ?_
        refine (rn_if_ne d_M_person_89 (t := 105) (by decide)).trans (zif ?_ ?_)
        · refine (rn_ld d_M_person_92 rfl rfl rfl rfl).trans ?_
          refine (rn_ld d_M_person_93 rfl rfl rfl rfl).trans ?_
          refine (rn_vI d_M_person_94 (zinv_v l_4_84 (by decide) (Nat.le_of_ble_eq_true rfl) rfl rfl zc_123 (Nat.le_of_ble_eq_true rfl)) (Nat.le_of_ble_eq_true rfl) (Or.inl rfl)).trans (zbI_congr fun v17 h16 => ?_)
          refine Eq.trans (b := zrn X 2 m_M_person 107 [some (.ref 123), some (.int x1), some (.int x2), some (.int x3), some (.int x4), some (.int (if v14 = 0 then (-1 : Int32) else (if v6 = 0 then (if (h5.1 123 0) = 6 then (-6 : Int32) else v6) else v6)))] [.int (if v17 < 0 then (if v14 = 0 then (-1 : Int32) else (if v6 = 0 then (if (h5.1 123 0) = 6 then (-6 : Int32) else v6) else v6)) else (-3))] h16) ?_ ?_
          · refine (rn_if_lt d_M_person_97 (t := 105) (by decide)).trans ?_
            by_cases q18 : v17 < 0
            · simp only [if_pos q18]
              refine (rn_ld d_M_person_105 rfl rfl rfl rfl).trans ?_
              all_goals rfl
            · simp only [if_neg q18]
              refine (rn_push d_M_person_100 zcs_bipush_m3).trans ?_
              refine (rn_goto d_M_person_102 (t := 107) (by decide)).trans ?_
              all_goals rfl
          refine (rn_st d_M_person_107 rfl rfl rfl (by decide) rfl (Nat.le_of_ble_eq_true rfl) (ls' := [some (.ref 123), some (.int x1), some (.int x2), some (.int x3), some (.int x4), some (.int (if v17 < 0 then (if v14 = 0 then (-1 : Int32) else (if v6 = 0 then (if (h5.1 123 0) = 6 then (-6 : Int32) else v6) else v6)) else (-3)))]) rfl).trans ?_
          refine (rn_ld d_M_person_109 rfl rfl rfl rfl).trans ?_
          refine (rn_if_ge d_M_person_111 (t := 121) (by decide)).trans (zif ?_ ?_)
          · refine (rn_ld d_M_person_121 rfl rfl rfl rfl).trans ?_
            refine (rn_ld d_M_person_122 rfl rfl rfl rfl).trans ?_
            refine (rn_ld d_M_person_123 rfl rfl rfl rfl).trans ?_
            refine (rn_ld d_M_person_124 rfl rfl rfl rfl).trans ?_
            refine (rn_ld d_M_person_125 rfl rfl rfl rfl).trans ?_
            refine (rn_vV d_M_person_127 (zinv_v l_4_156 (by decide) (Nat.le_of_ble_eq_true rfl) rfl rfl zc_123 (Nat.le_of_ble_eq_true rfl)) (Nat.le_of_ble_eq_true rfl) rfl).trans (zbV_congr fun h19 => ?_)
            refine (rn_ld d_M_person_130 rfl rfl rfl rfl).trans ?_
            refine (rn_push d_M_person_131 zcs_iconst_0).trans ?_
            refine (rn_pi d_M_person_132 f_4_177 zc_123).trans ?_
            refine (rn_ld d_M_person_135 rfl rfl rfl rfl).trans ?_
            refine (rn_gi d_M_person_136 f_4_65 zc_123).trans ?_
            refine (rn_push d_M_person_139 zcs_iconst_1).trans ?_
            refine (rn_a2 d_M_person_140 rfl).trans ?_
            exact rn_ri d_M_person_141 rfl
          · refine (rn_ld d_M_person_114 rfl rfl rfl rfl).trans ?_
            refine (rn_ld d_M_person_115 rfl rfl rfl rfl).trans ?_
            refine (rn_vI d_M_person_117 (zinv_v l_4_123 (by decide) (Nat.le_of_ble_eq_true rfl) rfl rfl zc_123 (Nat.le_of_ble_eq_true rfl)) (Nat.le_of_ble_eq_true rfl) (Or.inl rfl)).trans (zbI_congr fun v21 h20 => ?_)
            exact rn_ri d_M_person_120 rfl
        · refine (rn_ld d_M_person_105 rfl rfl rfl rfl).trans ?_
          refine (rn_st d_M_person_107 rfl rfl rfl (by decide) rfl (Nat.le_of_ble_eq_true rfl) (ls' := [some (.ref 123), some (.int x1), some (.int x2), some (.int x3), some (.int x4), some (.int (if v14 = 0 then (-1 : Int32) else (if v6 = 0 then (if (h5.1 123 0) = 6 then (-6 : Int32) else v6) else v6)))]) rfl).trans ?_
          refine (rn_ld d_M_person_109 rfl rfl rfl rfl).trans ?_
          refine (rn_if_ge d_M_person_111 (t := 121) (by decide)).trans (zif ?_ ?_)
          · refine (rn_ld d_M_person_121 rfl rfl rfl rfl).trans ?_
            refine (rn_ld d_M_person_122 rfl rfl rfl rfl).trans ?_
            refine (rn_ld d_M_person_123 rfl rfl rfl rfl).trans ?_
            refine (rn_ld d_M_person_124 rfl rfl rfl rfl).trans ?_
            refine (rn_ld d_M_person_125 rfl rfl rfl rfl).trans ?_
            refine (rn_vV d_M_person_127 (zinv_v l_4_156 (by decide) (Nat.le_of_ble_eq_true rfl) rfl rfl zc_123 (Nat.le_of_ble_eq_true rfl)) (Nat.le_of_ble_eq_true rfl) rfl).trans (zbV_congr fun h22 => ?_)
            refine (rn_ld d_M_person_130 rfl rfl rfl rfl).trans ?_
            refine (rn_push d_M_person_131 zcs_iconst_0).trans ?_
            refine (rn_pi d_M_person_132 f_4_177 zc_123).trans ?_
            refine (rn_ld d_M_person_135 rfl rfl rfl rfl).trans ?_
            refine (rn_gi d_M_person_136 f_4_65 zc_123).trans ?_
            refine (rn_push d_M_person_139 zcs_iconst_1).trans ?_
            refine (rn_a2 d_M_person_140 rfl).trans ?_
            exact rn_ri d_M_person_141 rfl
          · refine (rn_ld d_M_person_114 rfl rfl rfl rfl).trans ?_
            refine (rn_ld d_M_person_115 rfl rfl rfl rfl).trans ?_
            refine (rn_vI d_M_person_117 (zinv_v l_4_123 (by decide) (Nat.le_of_ble_eq_true rfl) rfl rfl zc_123 (Nat.le_of_ble_eq_true rfl)) (Nat.le_of_ble_eq_true rfl) (Or.inl rfl)).trans (zbI_congr fun v24 h23 => ?_)
            exact rn_ri d_M_person_120 rfl
    · refine (rn_ld d_M_person_83 rfl rfl rfl rfl).trans ?_
      refine (rn_st d_M_person_85 rfl rfl rfl (by decide) rfl (Nat.le_of_ble_eq_true rfl) (ls' := [some (.ref 123), some (.int x1), some (.int x2), some (.int x3), some (.int x4), some (.int (if v6 = 0 then (if (h5.1 123 0) = 6 then (-6 : Int32) else v6) else v6))]) rfl).trans ?_
      refine (rn_ld d_M_person_87 rfl rfl rfl rfl).trans ?_
      refine (rn_if_ne d_M_person_89 (t := 105) (by decide)).trans (zif ?_ ?_)
      · refine (rn_ld d_M_person_92 rfl rfl rfl rfl).trans ?_
        refine (rn_ld d_M_person_93 rfl rfl rfl rfl).trans ?_
        refine (rn_vI d_M_person_94 (zinv_v l_4_84 (by decide) (Nat.le_of_ble_eq_true rfl) rfl rfl zc_123 (Nat.le_of_ble_eq_true rfl)) (Nat.le_of_ble_eq_true rfl) (Or.inl rfl)).trans (zbI_congr fun v26 h25 => ?_)
        refine Eq.trans (b := zrn X 2 m_M_person 107 [some (.ref 123), some (.int x1), some (.int x2), some (.int x3), some (.int x4), some (.int (if v6 = 0 then (if (h5.1 123 0) = 6 then (-6 : Int32) else v6) else v6))] [.int (if v26 < 0 then (if v6 = 0 then (if (h5.1 123 0) = 6 then (-6 : Int32) else v6) else v6) else (-3))] h25) ?_ ?_
        · refine (rn_if_lt d_M_person_97 (t := 105) (by decide)).trans ?_
          by_cases q27 : v26 < 0
          · simp only [if_pos q27]
            refine (rn_ld d_M_person_105 rfl rfl rfl rfl).trans ?_
            all_goals rfl
          · simp only [if_neg q27]
            refine (rn_push d_M_person_100 zcs_bipush_m3).trans ?_
            refine (rn_goto d_M_person_102 (t := 107) (by decide)).trans ?_
            all_goals rfl
        refine (rn_st d_M_person_107 rfl rfl rfl (by decide) rfl (Nat.le_of_ble_eq_true rfl) (ls' := [some (.ref 123), some (.int x1), some (.int x2), some (.int x3), some (.int x4), some (.int (if v26 < 0 then (if v6 = 0 then (if (h5.1 123 0) = 6 then (-6 : Int32) else v6) else v6) else (-3)))]) rfl).trans ?_
        refine (rn_ld d_M_person_109 rfl rfl rfl rfl).trans ?_
        refine (rn_if_ge d_M_person_111 (t := 121) (by decide)).trans (zif ?_ ?_)
        · refine (rn_ld d_M_person_121 rfl rfl rfl rfl).trans ?_
          refine (rn_ld d_M_person_122 rfl rfl rfl rfl).trans ?_
          refine (rn_ld d_M_person_123 rfl rfl rfl rfl).trans ?_
          refine (rn_ld d_M_person_124 rfl rfl rfl rfl).trans ?_
          refine (rn_ld d_M_person_125 rfl rfl rfl rfl).trans ?_
          refine (rn_vV d_M_person_127 (zinv_v l_4_156 (by decide) (Nat.le_of_ble_eq_true rfl) rfl rfl zc_123 (Nat.le_of_ble_eq_true rfl)) (Nat.le_of_ble_eq_true rfl) rfl).trans (zbV_congr fun h28 => ?_)
          refine (rn_ld d_M_person_130 rfl rfl rfl rfl).trans ?_
          refine (rn_push d_M_person_131 zcs_iconst_0).trans ?_
          refine (rn_pi d_M_person_132 f_4_177 zc_123).trans ?_
          refine (rn_ld d_M_person_135 rfl rfl rfl rfl).trans ?_
          refine (rn_gi d_M_person_136 f_4_65 zc_123).trans ?_
          refine (rn_push d_M_person_139 zcs_iconst_1).trans ?_
          refine (rn_a2 d_M_person_140 rfl).trans ?_
          exact rn_ri d_M_person_141 rfl
        · refine (rn_ld d_M_person_114 rfl rfl rfl rfl).trans ?_
          refine (rn_ld d_M_person_115 rfl rfl rfl rfl).trans ?_
          refine (rn_vI d_M_person_117 (zinv_v l_4_123 (by decide) (Nat.le_of_ble_eq_true rfl) rfl rfl zc_123 (Nat.le_of_ble_eq_true rfl)) (Nat.le_of_ble_eq_true rfl) (Or.inl rfl)).trans (zbI_congr fun v30 h29 => ?_)
          exact rn_ri d_M_person_120 rfl
      · refine (rn_ld d_M_person_105 rfl rfl rfl rfl).trans ?_
        refine (rn_st d_M_person_107 rfl rfl rfl (by decide) rfl (Nat.le_of_ble_eq_true rfl) (ls' := [some (.ref 123), some (.int x1), some (.int x2), some (.int x3), some (.int x4), some (.int (if v6 = 0 then (if (h5.1 123 0) = 6 then (-6 : Int32) else v6) else v6))]) rfl).trans ?_
        refine (rn_ld d_M_person_109 rfl rfl rfl rfl).trans ?_
        refine (rn_if_ge d_M_person_111 (t := 121) (by decide)).trans (zif ?_ ?_)
        · refine (rn_ld d_M_person_121 rfl rfl rfl rfl).trans ?_
          refine (rn_ld d_M_person_122 rfl rfl rfl rfl).trans ?_
          refine (rn_ld d_M_person_123 rfl rfl rfl rfl).trans ?_
          refine (rn_ld d_M_person_124 rfl rfl rfl rfl).trans ?_
          refine (rn_ld d_M_person_125 rfl rfl rfl rfl).trans ?_
          refine (rn_vV d_M_person_127 (zinv_v l_4_156 (by decide) (Nat.le_of_ble_eq_true rfl) rfl rfl zc_123 (Nat.le_of_ble_eq_true rfl)) (Nat.le_of_ble_eq_true rfl) rfl).trans (zbV_congr fun h31 => ?_)
          refine (rn_ld d_M_person_130 rfl rfl rfl rfl).trans ?_
          refine (rn_push d_M_person_131 zcs_iconst_0).trans ?_
          refine (rn_pi d_M_person_132 f_4_177 zc_123).trans ?_
          refine (rn_ld d_M_person_135 rfl rfl rfl rfl).trans ?_
          refine (rn_gi d_M_person_136 f_4_65 zc_123).trans ?_
          refine (rn_push d_M_person_139 zcs_iconst_1).trans ?_
          refine (rn_a2 d_M_person_140 rfl).trans ?_
          exact rn_ri d_M_person_141 rfl
        · refine (rn_ld d_M_person_114 rfl rfl rfl rfl).trans ?_
          refine (rn_ld d_M_person_115 rfl rfl rfl rfl).trans ?_
          refine (rn_vI d_M_person_117 (zinv_v l_4_123 (by decide) (Nat.le_of_ble_eq_true rfl) rfl rfl zc_123 (Nat.le_of_ble_eq_true rfl)) (Nat.le_of_ble_eq_true rfl) (Or.inl rfl)).trans (zbI_congr fun v33 h32 => ?_)
          exact rn_ri d_M_person_120 rfl
theorem e_M_wrongNumber {X : zX} {x0 : Int32} {x1 : Int32} {x2 : Int32} {h : zH} : zcf X m_M_wrongNumber [.int x0, .int x1, .int x2] h = (if x1 ≤ x0 then (if x0 ≤ x2 then (some (some (.int 0), h)) else (some (some (.int (-6)), h))) else (some (some (.int (-4)), h))) := by
  refine (zcf_run (Nat.le_of_ble_eq_true rfl)).trans ?_
  show zrn X 0 m_M_wrongNumber 0 [some (.int x0), some (.int x1), some (.int x2)] [] h = _
  refine (rn_ld d_M_wrongNumber_0 rfl rfl rfl rfl).trans ?_
  refine (rn_ld d_M_wrongNumber_1 rfl rfl rfl rfl).trans ?_
  refine (rn_ic_ge d_M_wrongNumber_2 (t := 10) (by decide)).trans (zif ?_ ?_)
  · refine (rn_ld d_M_wrongNumber_10 rfl rfl rfl rfl).trans ?_
    refine (rn_ld d_M_wrongNumber_11 rfl rfl rfl rfl).trans ?_
    refine (rn_ic_le d_M_wrongNumber_12 (t := 20) (by decide)).trans (zif ?_ ?_)
    · refine (rn_push d_M_wrongNumber_20 zcs_iconst_0).trans ?_
      exact rn_ri d_M_wrongNumber_21 rfl
    · refine (rn_push d_M_wrongNumber_15 zcs_bipush_m6).trans ?_
      refine (rn_goto d_M_wrongNumber_17 (t := 21) (by decide)).trans ?_
      exact rn_ri d_M_wrongNumber_21 rfl
  · refine (rn_push d_M_wrongNumber_5 zcs_bipush_m4).trans ?_
    refine (rn_goto d_M_wrongNumber_7 (t := 21) (by decide)).trans ?_
    exact rn_ri d_M_wrongNumber_21 rfl
theorem e_M_isCell {X : zX} {x0 : Int32} {h : zH} : zcf X m_M_isCell [.int x0] h = (zbI (zcf X m_M_in [.long (Int32.toInt64 x0), .long 0, .long 35] h) fun v2 h1 => (if v2 = 0 ∨ v2 = 1 then (some (some (.int v2), h1)) else none)) := by
  refine (zcf_run (Nat.le_of_ble_eq_true rfl)).trans ?_
  show zrn X 1 m_M_isCell 0 [some (.int x0)] [] h = _
  refine (rn_ld d_M_isCell_0 rfl rfl rfl rfl).trans ?_
  refine (rn_i2l d_M_isCell_1).trans ?_
  refine (rn_push d_M_isCell_2 zcs_lconst_0).trans ?_
  refine (rn_push d_M_isCell_3 zcs_ldc2_4_76).trans ?_
  refine (rn_sI d_M_isCell_6 nb_4_68 (zinv_s l_4_68 (by decide) (Nat.le_of_ble_eq_true rfl) rfl rfl (Nat.le_of_ble_eq_true rfl)) (Nat.le_of_ble_eq_true rfl) (Or.inr rfl)).trans (zbI_congr fun v2 h1 => ?_)
  exact rn_rzg d_M_isCell_9 rfl
theorem e_M_turns {X : zX} {x1 : Int32} {x2 : Int32} {h : zH} : zcf X m_M_turns [.ref 123, .int x1, .int x2] h = (zbI (zcf X m_M_isOne [.ref 123, .int x1] ((zup h.1 123 7 0), h.2)) fun v2 h1 => (if v2 = 0 then (zbI (zcf X m_M_refuse [.ref 123, .int (-1)] h1) fun v4 h3 => (some (some (.int v4), h3))) else (zbI (zcf X m_M_in [.long (Int32.toInt64 x2), .long 0, .long 3] h1) fun v6 h5 => (if v6 = 0 then (zbI (zcf X m_M_refuse [.ref 123, .int (-1)] h5) fun v8 h7 => (some (some (.int v8), h7))) else (zbV (zcf X m_M_keepTurn [.ref 123] h5) fun h9 => (if zin x1 7 = true then (if zin x1 7 = true then (some (some (.int (h9.1 127 (Int32.toNatClampNeg x1))), ((zup h9.1 127 (Int32.toNatClampNeg x1) x2), h9.2))) else none) else none)))))) := by
  refine (zcf_run (Nat.le_of_ble_eq_true rfl)).trans ?_
  show zrn X 3 m_M_turns 0 [some (.ref 123), some (.int x1), some (.int x2), none] [] h = _
  refine (rn_ld d_M_turns_0 rfl rfl rfl rfl).trans ?_
  refine (rn_push d_M_turns_1 zcs_iconst_0).trans ?_
  refine (rn_pi d_M_turns_2 f_4_61 zc_123).trans ?_
  refine (rn_ld d_M_turns_5 rfl rfl rfl rfl).trans ?_
  refine (rn_ld d_M_turns_6 rfl rfl rfl rfl).trans ?_
  refine (rn_vI d_M_turns_7 (zinv_v l_4_72 (by decide) (Nat.le_of_ble_eq_true rfl) rfl rfl zc_123 (Nat.le_of_ble_eq_true rfl)) (Nat.le_of_ble_eq_true rfl) (Or.inr rfl)).trans (zbI_congr fun v2 h1 => ?_)
  refine (rn_if_eq d_M_turns_10 (t := 25) (by decide)).trans (zif ?_ ?_)
  · refine (rn_ld d_M_turns_25 rfl rfl rfl rfl).trans ?_
    refine (rn_push d_M_turns_26 zcs_iconst_m1).trans ?_
    refine (rn_vI d_M_turns_27 (zinv_v l_4_123 (by decide) (Nat.le_of_ble_eq_true rfl) rfl rfl zc_123 (Nat.le_of_ble_eq_true rfl)) (Nat.le_of_ble_eq_true rfl) (Or.inl rfl)).trans (zbI_congr fun v4 h3 => ?_)
    exact rn_ri d_M_turns_30 rfl
  · refine (rn_ld d_M_turns_13 rfl rfl rfl rfl).trans ?_
    refine (rn_i2l d_M_turns_14).trans ?_
    refine (rn_push d_M_turns_15 zcs_lconst_0).trans ?_
    refine (rn_push d_M_turns_16 zcs_ldc2_4_207).trans ?_
    refine (rn_sI d_M_turns_19 nb_4_68 (zinv_s l_4_68 (by decide) (Nat.le_of_ble_eq_true rfl) rfl rfl (Nat.le_of_ble_eq_true rfl)) (Nat.le_of_ble_eq_true rfl) (Or.inr rfl)).trans (zbI_congr fun v6 h5 => ?_)
    refine (rn_if_ne d_M_turns_22 (t := 31) (by decide)).trans (zif ?_ ?_)
    · refine (rn_ld d_M_turns_25 rfl rfl rfl rfl).trans ?_
      refine (rn_push d_M_turns_26 zcs_iconst_m1).trans ?_
      refine (rn_vI d_M_turns_27 (zinv_v l_4_123 (by decide) (Nat.le_of_ble_eq_true rfl) rfl rfl zc_123 (Nat.le_of_ble_eq_true rfl)) (Nat.le_of_ble_eq_true rfl) (Or.inl rfl)).trans (zbI_congr fun v8 h7 => ?_)
      exact rn_ri d_M_turns_30 rfl
    · refine (rn_ld d_M_turns_31 rfl rfl rfl rfl).trans ?_
      refine (rn_vV d_M_turns_32 (zinv_v l_4_209 (by decide) (Nat.le_of_ble_eq_true rfl) rfl rfl zc_123 (Nat.le_of_ble_eq_true rfl)) (Nat.le_of_ble_eq_true rfl) rfl).trans (zbV_congr fun h9 => ?_)
      refine (rn_ld d_M_turns_35 rfl rfl rfl rfl).trans ?_
      refine (rn_gr d_M_turns_36 f_4_19 zc_123 zr_123_4).trans ?_
      refine (rn_ld d_M_turns_39 rfl rfl rfl rfl).trans ?_
      refine (rn_ial d_M_turns_40 (by decide) zc_127).trans (zif ?_ rfl)
      refine (rn_st d_M_turns_41 rfl rfl rfl (by decide) rfl (Nat.le_of_ble_eq_true rfl) (ls' := [some (.ref 123), some (.int x1), some (.int x2), some (.int (h9.1 127 (Int32.toNatClampNeg x1)))]) rfl).trans ?_
      refine (rn_ld d_M_turns_42 rfl rfl rfl rfl).trans ?_
      refine (rn_gr d_M_turns_43 f_4_19 zc_123 zr_123_4).trans ?_
      refine (rn_ld d_M_turns_46 rfl rfl rfl rfl).trans ?_
      refine (rn_ld d_M_turns_47 rfl rfl rfl rfl).trans ?_
      refine (rn_ias d_M_turns_48 zc_127).trans (zif ?_ rfl)
      refine (rn_ld d_M_turns_49 rfl rfl rfl rfl).trans ?_
      exact rn_ri d_M_turns_50 rfl
theorem b_M_keepTurn_12 {X : zX} {x1 : Int32} {h : zH} : zrn X 2 m_M_keepTurn 12 [some (.ref 123), some (.int x1)] [] h = (if 296 ≤ x1 then (zbV (zcf X m_M_carryAll [.ref 123, .ref 137, .int 1] ((zup h.1 123 27 ((h.1 123 27) - 1)), h.2)) fun h1 => zrn X 2 m_M_keepTurn 61 [some (.ref 123), some (.int 0)] [] h1) else (if zin x1 296 = true then (if zin (x1 - 37) 296 = true then zrn X 2 m_M_keepTurn 12 [some (.ref 123), some (.int (x1 + 1))] [] ((zup h.1 136 (Int32.toNatClampNeg (x1 - 37)) (h.1 136 (Int32.toNatClampNeg x1))), h.2) else none) else none)) := by
  refine (rn_ld d_M_keepTurn_12 rfl rfl rfl rfl).trans ?_
  refine (rn_push d_M_keepTurn_13 zcs_sipush_296).trans ?_
  refine (rn_ic_ge d_M_keepTurn_16 (t := 40) (by decide)).trans (zif ?_ ?_)
  · refine (rn_ld d_M_keepTurn_40 rfl rfl rfl rfl).trans ?_
    refine (rn_dup d_M_keepTurn_41 rfl).trans ?_
    refine (rn_gi d_M_keepTurn_42 f_4_177 zc_123).trans ?_
    refine (rn_push d_M_keepTurn_45 zcs_iconst_1).trans ?_
    refine (rn_a2 d_M_keepTurn_46 rfl).trans ?_
    refine (rn_pi d_M_keepTurn_47 f_4_177 zc_123).trans ?_
    refine (rn_ld d_M_keepTurn_50 rfl rfl rfl rfl).trans ?_
    refine (rn_ld d_M_keepTurn_51 rfl rfl rfl rfl).trans ?_
    refine (rn_gr d_M_keepTurn_52 f_4_49 zc_123 zr_123_26).trans ?_
    refine (rn_push d_M_keepTurn_55 zcs_iconst_1).trans ?_
    refine (rn_vV d_M_keepTurn_56 (zinv_v l_4_192 (by decide) (Nat.le_of_ble_eq_true rfl) rfl rfl zc_123 (Nat.le_of_ble_eq_true rfl)) (Nat.le_of_ble_eq_true rfl) rfl).trans (zbV_congr fun h1 => ?_)
    refine (rn_push d_M_keepTurn_59 zcs_iconst_0).trans ?_
    refine (rn_st d_M_keepTurn_60 rfl rfl rfl (by decide) rfl (Nat.le_of_ble_eq_true rfl) (ls' := [some (.ref 123), some (.int 0)]) rfl).trans ?_
    rfl
  · refine (rn_ld d_M_keepTurn_19 rfl rfl rfl rfl).trans ?_
    refine (rn_gr d_M_keepTurn_20 f_4_46 zc_123 zr_123_25).trans ?_
    refine (rn_ld d_M_keepTurn_23 rfl rfl rfl rfl).trans ?_
    refine (rn_push d_M_keepTurn_24 zcs_bipush_37).trans ?_
    refine (rn_a2 d_M_keepTurn_26 rfl).trans ?_
    refine (rn_ld d_M_keepTurn_27 rfl rfl rfl rfl).trans ?_
    refine (rn_gr d_M_keepTurn_28 f_4_46 zc_123 zr_123_25).trans ?_
    refine (rn_ld d_M_keepTurn_31 rfl rfl rfl rfl).trans ?_
    refine (rn_ial d_M_keepTurn_32 (by decide) zc_136).trans (zif ?_ rfl)
    refine (rn_ias d_M_keepTurn_33 zc_136).trans (zif ?_ rfl)
    refine (rn_inc d_M_keepTurn_34 rfl (c := 1) (by decide) (ls' := [some (.ref 123), some (.int (x1 + 1))]) rfl).trans ?_
    refine (rn_goto d_M_keepTurn_37 (t := 12) (by decide)).trans ?_
    rfl
theorem b_M_keepTurn_61 {X : zX} {x1 : Int32} {h : zH} : zrn X 2 m_M_keepTurn 61 [some (.ref 123), some (.int x1)] [] h = (if 37 ≤ x1 then (some (none, ((zup h.1 123 27 ((h.1 123 27) + 1)), h.2))) else (if zin x1 37 = true then (if zin ((37 * (h.1 123 27)) + x1) 296 = true then zrn X 2 m_M_keepTurn 61 [some (.ref 123), some (.int (x1 + 1))] [] ((zup h.1 136 (Int32.toNatClampNeg ((37 * (h.1 123 27)) + x1)) (h.1 137 (Int32.toNatClampNeg x1))), h.2) else none) else none)) := by
  refine (rn_ld d_M_keepTurn_61 rfl rfl rfl rfl).trans ?_
  refine (rn_push d_M_keepTurn_62 zcs_bipush_37).trans ?_
  refine (rn_ic_ge d_M_keepTurn_64 (t := 93) (by decide)).trans (zif ?_ ?_)
  · refine (rn_ld d_M_keepTurn_93 rfl rfl rfl rfl).trans ?_
    refine (rn_dup d_M_keepTurn_94 rfl).trans ?_
    refine (rn_gi d_M_keepTurn_95 f_4_177 zc_123).trans ?_
    refine (rn_push d_M_keepTurn_98 zcs_iconst_1).trans ?_
    refine (rn_a2 d_M_keepTurn_99 rfl).trans ?_
    refine (rn_pi d_M_keepTurn_100 f_4_177 zc_123).trans ?_
    exact rn_rv d_M_keepTurn_103 rfl
  · refine (rn_ld d_M_keepTurn_67 rfl rfl rfl rfl).trans ?_
    refine (rn_gr d_M_keepTurn_68 f_4_46 zc_123 zr_123_25).trans ?_
    refine (rn_push d_M_keepTurn_71 zcs_bipush_37).trans ?_
    refine (rn_ld d_M_keepTurn_73 rfl rfl rfl rfl).trans ?_
    refine (rn_gi d_M_keepTurn_74 f_4_177 zc_123).trans ?_
    refine (rn_a2 d_M_keepTurn_77 rfl).trans ?_
    refine (rn_ld d_M_keepTurn_78 rfl rfl rfl rfl).trans ?_
    refine (rn_a2 d_M_keepTurn_79 rfl).trans ?_
    refine (rn_ld d_M_keepTurn_80 rfl rfl rfl rfl).trans ?_
    refine (rn_gr d_M_keepTurn_81 f_4_49 zc_123 zr_123_26).trans ?_
    refine (rn_ld d_M_keepTurn_84 rfl rfl rfl rfl).trans ?_
    refine (rn_ial d_M_keepTurn_85 (by decide) zc_137).trans (zif ?_ rfl)
    refine (rn_ias d_M_keepTurn_86 zc_136).trans (zif ?_ rfl)
    refine (rn_inc d_M_keepTurn_87 rfl (c := 1) (by decide) (ls' := [some (.ref 123), some (.int (x1 + 1))]) rfl).trans ?_
    refine (rn_goto d_M_keepTurn_90 (t := 61) (by decide)).trans ?_
    rfl
theorem e_M_keepTurn {X : zX} {h : zH} : zcf X m_M_keepTurn [.ref 123] h = (if (h.1 123 27) = 8 then zrn X 2 m_M_keepTurn 12 [some (.ref 123), some (.int 37)] [] h else (zbV (zcf X m_M_carryAll [.ref 123, .ref 137, .int 1] h) fun h1 => zrn X 2 m_M_keepTurn 61 [some (.ref 123), some (.int 0)] [] h1)) := by
  refine (zcf_run (Nat.le_of_ble_eq_true rfl)).trans ?_
  show zrn X 2 m_M_keepTurn 0 [some (.ref 123), none] [] h = _
  refine (rn_ld d_M_keepTurn_0 rfl rfl rfl rfl).trans ?_
  refine (rn_gi d_M_keepTurn_1 f_4_177 zc_123).trans ?_
  refine (rn_push d_M_keepTurn_4 zcs_bipush_8).trans ?_
  refine (rn_ic_ne d_M_keepTurn_6 (t := 50) (by decide)).trans (zif ?_ ?_)
  · refine (rn_push d_M_keepTurn_9 zcs_bipush_37).trans ?_
    refine (rn_st d_M_keepTurn_11 rfl rfl rfl (by decide) rfl (Nat.le_of_ble_eq_true rfl) (ls' := [some (.ref 123), some (.int 37)]) rfl).trans ?_
    rfl
  · refine (rn_ld d_M_keepTurn_50 rfl rfl rfl rfl).trans ?_
    refine (rn_ld d_M_keepTurn_51 rfl rfl rfl rfl).trans ?_
    refine (rn_gr d_M_keepTurn_52 f_4_49 zc_123 zr_123_26).trans ?_
    refine (rn_push d_M_keepTurn_55 zcs_iconst_1).trans ?_
    refine (rn_vV d_M_keepTurn_56 (zinv_v l_4_192 (by decide) (Nat.le_of_ble_eq_true rfl) rfl rfl zc_123 (Nat.le_of_ble_eq_true rfl)) (Nat.le_of_ble_eq_true rfl) rfl).trans (zbV_congr fun h1 => ?_)
    refine (rn_push d_M_keepTurn_59 zcs_iconst_0).trans ?_
    refine (rn_st d_M_keepTurn_60 rfl rfl rfl (by decide) rfl (Nat.le_of_ble_eq_true rfl) (ls' := [some (.ref 123), some (.int 0)]) rfl).trans ?_
    rfl
theorem e_M_stands {X : zX} {x1 : Int32} {x2 : Int32} {h : zH} : zcf X m_M_stands [.ref 123, .int x1, .int x2] h = (zbI (zcf X m_M_isOne [.ref 123, .int x1] ((zup h.1 123 7 0), h.2)) fun v2 h1 => (if v2 = 0 then (zbI (zcf X m_M_refuse [.ref 123, .int (-1)] h1) fun v4 h3 => (some (some (.int v4), h3))) else (zbI (zcf X m_M_isCell [.int x2] h1) fun v6 h5 => (if v6 = 0 then (zbI (zcf X m_M_refuse [.ref 123, .int (-1)] h5) fun v8 h7 => (some (some (.int v8), h7))) else (zbI (zcf X m_M_oneIn [.ref 123, .int x2] h5) fun v10 h9 => (if 0 ≤ (if v10 < 0 then (0 : Int32) else (-3)) then (zbV (zcf X m_M_keepTurn [.ref 123] h9) fun h12 => (if zin x1 7 = true then (if zin x1 7 = true then (some (some (.int (h12.1 126 (Int32.toNatClampNeg x1))), ((zup h12.1 126 (Int32.toNatClampNeg x1) x2), h12.2))) else none) else none)) else (zbI (zcf X m_M_refuse [.ref 123, .int (if v10 < 0 then (0 : Int32) else (-3))] h9) fun v14 h13 => (some (some (.int v14), h13))))))))) := by
  refine (zcf_run (Nat.le_of_ble_eq_true rfl)).trans ?_
  show zrn X 3 m_M_stands 0 [some (.ref 123), some (.int x1), some (.int x2), none, none] [] h = _
  refine (rn_ld d_M_stands_0 rfl rfl rfl rfl).trans ?_
  refine (rn_push d_M_stands_1 zcs_iconst_0).trans ?_
  refine (rn_pi d_M_stands_2 f_4_61 zc_123).trans ?_
  refine (rn_ld d_M_stands_5 rfl rfl rfl rfl).trans ?_
  refine (rn_ld d_M_stands_6 rfl rfl rfl rfl).trans ?_
  refine (rn_vI d_M_stands_7 (zinv_v l_4_72 (by decide) (Nat.le_of_ble_eq_true rfl) rfl rfl zc_123 (Nat.le_of_ble_eq_true rfl)) (Nat.le_of_ble_eq_true rfl) (Or.inr rfl)).trans (zbI_congr fun v2 h1 => ?_)
  refine (rn_if_eq d_M_stands_10 (t := 20) (by decide)).trans (zif ?_ ?_)
  · refine (rn_push d_M_stands_20 zcs_iconst_m1).trans ?_
    refine (rn_goto d_M_stands_21 (t := 38) (by decide)).trans ?_
    refine (rn_st d_M_stands_38 rfl rfl rfl (by decide) rfl (Nat.le_of_ble_eq_true rfl) (ls' := [some (.ref 123), some (.int x1), some (.int x2), some (.int (-1)), none]) rfl).trans ?_
    refine (rn_ld d_M_stands_39 rfl rfl rfl rfl).trans ?_
    refine ((rn_if_ge d_M_stands_40 (t := 49) (by decide)).trans (if_neg (by decide))).trans ?_
    refine (rn_ld d_M_stands_43 rfl rfl rfl rfl).trans ?_
    refine (rn_ld d_M_stands_44 rfl rfl rfl rfl).trans ?_
    refine (rn_vI d_M_stands_45 (zinv_v l_4_123 (by decide) (Nat.le_of_ble_eq_true rfl) rfl rfl zc_123 (Nat.le_of_ble_eq_true rfl)) (Nat.le_of_ble_eq_true rfl) (Or.inl rfl)).trans (zbI_congr fun v4 h3 => ?_)
    exact rn_ri d_M_stands_48 rfl
  · refine (rn_ld d_M_stands_13 rfl rfl rfl rfl).trans ?_
    refine (rn_sI d_M_stands_14 nb_4_204 (zinv_s l_4_204 (by decide) (Nat.le_of_ble_eq_true rfl) rfl rfl (Nat.le_of_ble_eq_true rfl)) (Nat.le_of_ble_eq_true rfl) (Or.inr rfl)).trans (zbI_congr fun v6 h5 => ?_)
    refine (rn_if_ne d_M_stands_17 (t := 24) (by decide)).trans (zif ?_ ?_)
    · refine (rn_push d_M_stands_20 zcs_iconst_m1).trans ?_
      refine (rn_goto d_M_stands_21 (t := 38) (by decide)).trans ?_
      refine (rn_st d_M_stands_38 rfl rfl rfl (by decide) rfl (Nat.le_of_ble_eq_true rfl) (ls' := [some (.ref 123), some (.int x1), some (.int x2), some (.int (-1)), none]) rfl).trans ?_
      refine (rn_ld d_M_stands_39 rfl rfl rfl rfl).trans ?_
      refine ((rn_if_ge d_M_stands_40 (t := 49) (by decide)).trans (if_neg (by decide))).trans ?_
      refine (rn_ld d_M_stands_43 rfl rfl rfl rfl).trans ?_
      refine (rn_ld d_M_stands_44 rfl rfl rfl rfl).trans ?_
      refine (rn_vI d_M_stands_45 (zinv_v l_4_123 (by decide) (Nat.le_of_ble_eq_true rfl) rfl rfl zc_123 (Nat.le_of_ble_eq_true rfl)) (Nat.le_of_ble_eq_true rfl) (Or.inl rfl)).trans (zbI_congr fun v8 h7 => ?_)
      exact rn_ri d_M_stands_48 rfl
    · refine (rn_ld d_M_stands_24 rfl rfl rfl rfl).trans ?_
      refine (rn_ld d_M_stands_25 rfl rfl rfl rfl).trans ?_
      refine (rn_vI d_M_stands_26 (zinv_v l_4_84 (by decide) (Nat.le_of_ble_eq_true rfl) rfl rfl zc_123 (Nat.le_of_ble_eq_true rfl)) (Nat.le_of_ble_eq_true rfl) (Or.inl rfl)).trans (zbI_congr fun v10 h9 => ?_)
      refine Eq.trans (b := zrn X 3 m_M_stands 38 [some (.ref 123), some (.int x1), some (.int x2), none, none] [.int (if v10 < 0 then (0 : Int32) else (-3))] h9) ?_ ?_
      · refine (rn_if_lt d_M_stands_29 (t := 37) (by decide)).trans ?_
        by_cases q11 : v10 < 0
        · simp only [if_pos q11]
          refine (rn_push d_M_stands_37 zcs_iconst_0).trans ?_
          all_goals rfl
        · simp only [if_neg q11]
          refine (rn_push d_M_stands_32 zcs_bipush_m3).trans ?_
          refine (rn_goto d_M_stands_34 (t := 38) (by decide)).trans ?_
          all_goals rfl
      refine (rn_st d_M_stands_38 rfl rfl rfl (by decide) rfl (Nat.le_of_ble_eq_true rfl) (ls' := [some (.ref 123), some (.int x1), some (.int x2), some (.int (if v10 < 0 then (0 : Int32) else (-3))), none]) rfl).trans ?_
      refine (rn_ld d_M_stands_39 rfl rfl rfl rfl).trans ?_
      refine (rn_if_ge d_M_stands_40 (t := 49) (by decide)).trans (zif ?_ ?_)
      · refine (rn_ld d_M_stands_49 rfl rfl rfl rfl).trans ?_
        refine (rn_vV d_M_stands_50 (zinv_v l_4_209 (by decide) (Nat.le_of_ble_eq_true rfl) rfl rfl zc_123 (Nat.le_of_ble_eq_true rfl)) (Nat.le_of_ble_eq_true rfl) rfl).trans (zbV_congr fun h12 => ?_)
        refine (rn_ld d_M_stands_53 rfl rfl rfl rfl).trans ?_
        refine (rn_gr d_M_stands_54 f_4_16 zc_123 zr_123_3).trans ?_
        refine (rn_ld d_M_stands_57 rfl rfl rfl rfl).trans ?_
        refine (rn_ial d_M_stands_58 (by decide) zc_126).trans (zif ?_ rfl)
        refine (rn_st d_M_stands_59 rfl rfl rfl (by decide) rfl (Nat.le_of_ble_eq_true rfl) (ls' := [some (.ref 123), some (.int x1), some (.int x2), some (.int (if v10 < 0 then (0 : Int32) else (-3))), some (.int (h12.1 126 (Int32.toNatClampNeg x1)))]) rfl).trans ?_
        refine (rn_ld d_M_stands_61 rfl rfl rfl rfl).trans ?_
        refine (rn_gr d_M_stands_62 f_4_16 zc_123 zr_123_3).trans ?_
        refine (rn_ld d_M_stands_65 rfl rfl rfl rfl).trans ?_
        refine (rn_ld d_M_stands_66 rfl rfl rfl rfl).trans ?_
        refine (rn_ias d_M_stands_67 zc_126).trans (zif ?_ rfl)
        refine (rn_ld d_M_stands_68 rfl rfl rfl rfl).trans ?_
        exact rn_ri d_M_stands_70 rfl
      · refine (rn_ld d_M_stands_43 rfl rfl rfl rfl).trans ?_
        refine (rn_ld d_M_stands_44 rfl rfl rfl rfl).trans ?_
        refine (rn_vI d_M_stands_45 (zinv_v l_4_123 (by decide) (Nat.le_of_ble_eq_true rfl) rfl rfl zc_123 (Nat.le_of_ble_eq_true rfl)) (Nat.le_of_ble_eq_true rfl) (Or.inl rfl)).trans (zbI_congr fun v14 h13 => ?_)
        exact rn_ri d_M_stands_48 rfl
theorem e_M_nights {X : zX} {x1 : Int32} {h : zH} : zcf X m_M_nights [.ref 123, .int x1] h = (zbI (zcf X m_M_wrongNumber [.int x1, .int 1, .int 60] ((zup h.1 123 7 0), h.2)) fun v2 h1 => (if 0 ≤ (if v2 = 0 then (if ((h1.1 123 6) + x1) ≤ 999 then v2 else (-6)) else v2) then (zbV (zcf X m_M_keepTurn [.ref 123] h1) fun h5 => (zbV (zcf X m_M_goNights [.ref 123, .int x1] h5) fun h6 => (zbI (zcf X m_M_allOfStarts [.ref 123] h6) fun v8 h7 => (some (some (.int v8), h7))))) else (zbI (zcf X m_M_refuse [.ref 123, .int (if v2 = 0 then (if ((h1.1 123 6) + x1) ≤ 999 then v2 else (-6)) else v2)] h1) fun v10 h9 => (some (some (.int v10), h9))))) := by
  refine (zcf_run (Nat.le_of_ble_eq_true rfl)).trans ?_
  show zrn X 7 m_M_nights 0 [some (.ref 123), some (.int x1), none] [] h = _
  refine (rn_ld d_M_nights_0 rfl rfl rfl rfl).trans ?_
  refine (rn_push d_M_nights_1 zcs_iconst_0).trans ?_
  refine (rn_pi d_M_nights_2 f_4_61 zc_123).trans ?_
  refine (rn_ld d_M_nights_5 rfl rfl rfl rfl).trans ?_
  refine (rn_push d_M_nights_6 zcs_iconst_1).trans ?_
  refine (rn_push d_M_nights_7 zcs_bipush_60).trans ?_
  refine (rn_sI d_M_nights_9 nb_4_201 (zinv_s l_4_201 (by decide) (Nat.le_of_ble_eq_true rfl) rfl rfl (Nat.le_of_ble_eq_true rfl)) (Nat.le_of_ble_eq_true rfl) (Or.inl rfl)).trans (zbI_congr fun v2 h1 => ?_)
  refine (rn_st d_M_nights_12 rfl rfl rfl (by decide) rfl (Nat.le_of_ble_eq_true rfl) (ls' := [some (.ref 123), some (.int x1), some (.int v2)]) rfl).trans ?_
  refine (rn_ld d_M_nights_13 rfl rfl rfl rfl).trans ?_
  refine Eq.trans (b := zrn X 7 m_M_nights 35 [some (.ref 123), some (.int x1), some (.int v2)] [.int (if v2 = 0 then (if ((h1.1 123 6) + x1) ≤ 999 then v2 else (-6)) else v2)] h1) ?_ ?_
  · refine (rn_if_ne d_M_nights_14 (t := 34) (by decide)).trans ?_
    by_cases q3 : v2 = 0
    · simp only [if_pos q3]
      refine (rn_ld d_M_nights_17 rfl rfl rfl rfl).trans ?_
      refine (rn_gi d_M_nights_18 f_4_107 zc_123).trans ?_
      refine (rn_ld d_M_nights_21 rfl rfl rfl rfl).trans ?_
      refine (rn_a2 d_M_nights_22 rfl).trans ?_
      refine (rn_push d_M_nights_23 zcs_sipush_999).trans ?_
      refine (rn_ic_le d_M_nights_26 (t := 34) (by decide)).trans ?_
      by_cases q4 : ((h1.1 123 6) + x1) ≤ 999
      · simp only [if_pos q4]
        refine (rn_ld d_M_nights_34 rfl rfl rfl rfl).trans ?_
        all_goals rfl
      · simp only [if_neg q4]
        refine (rn_push d_M_nights_29 zcs_bipush_m6).trans ?_
        refine (rn_goto d_M_nights_31 (t := 35) (by decide)).trans ?_
        all_goals rfl
    · simp only [if_neg q3]
      refine (rn_ld d_M_nights_34 rfl rfl rfl rfl).trans ?_
      all_goals rfl
  refine (rn_st d_M_nights_35 rfl rfl rfl (by decide) rfl (Nat.le_of_ble_eq_true rfl) (ls' := [some (.ref 123), some (.int x1), some (.int (if v2 = 0 then (if ((h1.1 123 6) + x1) ≤ 999 then v2 else (-6)) else v2))]) rfl).trans ?_
  refine (rn_ld d_M_nights_36 rfl rfl rfl rfl).trans ?_
  refine (rn_if_ge d_M_nights_37 (t := 46) (by decide)).trans (zif ?_ ?_)
  · refine (rn_ld d_M_nights_46 rfl rfl rfl rfl).trans ?_
    refine (rn_vV d_M_nights_47 (zinv_v l_4_209 (by decide) (Nat.le_of_ble_eq_true rfl) rfl rfl zc_123 (Nat.le_of_ble_eq_true rfl)) (Nat.le_of_ble_eq_true rfl) rfl).trans (zbV_congr fun h5 => ?_)
    refine (rn_ld d_M_nights_50 rfl rfl rfl rfl).trans ?_
    refine (rn_ld d_M_nights_51 rfl rfl rfl rfl).trans ?_
    refine (rn_vV d_M_nights_52 (zinv_v l_4_162 (by decide) (Nat.le_of_ble_eq_true rfl) rfl rfl zc_123 (Nat.le_of_ble_eq_true rfl)) (Nat.le_of_ble_eq_true rfl) rfl).trans (zbV_congr fun h6 => ?_)
    refine (rn_ld d_M_nights_55 rfl rfl rfl rfl).trans ?_
    refine (rn_vI d_M_nights_56 (zinv_v l_4_212 (by decide) (Nat.le_of_ble_eq_true rfl) rfl rfl zc_123 (Nat.le_of_ble_eq_true rfl)) (Nat.le_of_ble_eq_true rfl) (Or.inl rfl)).trans (zbI_congr fun v8 h7 => ?_)
    exact rn_ri d_M_nights_59 rfl
  · refine (rn_ld d_M_nights_40 rfl rfl rfl rfl).trans ?_
    refine (rn_ld d_M_nights_41 rfl rfl rfl rfl).trans ?_
    refine (rn_vI d_M_nights_42 (zinv_v l_4_123 (by decide) (Nat.le_of_ble_eq_true rfl) rfl rfl zc_123 (Nat.le_of_ble_eq_true rfl)) (Nat.le_of_ble_eq_true rfl) (Or.inl rfl)).trans (zbI_congr fun v10 h9 => ?_)
    exact rn_ri d_M_nights_45 rfl
theorem b_M_allOfStarts_4 {X : zX} {x1 : Int32} {x2 : Int32} {h : zH} : zrn X 0 m_M_allOfStarts 4 [some (.ref 123), some (.int x1), some (.int x2)] [] h = (if (h.1 123 0) ≤ x2 then (some (some (.int x1), h)) else (if zin x2 7 = true then zrn X 0 m_M_allOfStarts 4 [some (.ref 123), some (.int (x1 + (h.1 128 (Int32.toNatClampNeg x2)))), some (.int (x2 + 1))] [] h else none)) := by
  refine (rn_ld d_M_allOfStarts_4 rfl rfl rfl rfl).trans ?_
  refine (rn_ld d_M_allOfStarts_5 rfl rfl rfl rfl).trans ?_
  refine (rn_gi d_M_allOfStarts_6 f_4_65 zc_123).trans ?_
  refine (rn_ic_ge d_M_allOfStarts_9 (t := 27) (by decide)).trans (zif ?_ ?_)
  · refine (rn_ld d_M_allOfStarts_27 rfl rfl rfl rfl).trans ?_
    exact rn_ri d_M_allOfStarts_28 rfl
  · refine (rn_ld d_M_allOfStarts_12 rfl rfl rfl rfl).trans ?_
    refine (rn_ld d_M_allOfStarts_13 rfl rfl rfl rfl).trans ?_
    refine (rn_gr d_M_allOfStarts_14 f_4_22 zc_123 zr_123_5).trans ?_
    refine (rn_ld d_M_allOfStarts_17 rfl rfl rfl rfl).trans ?_
    refine (rn_ial d_M_allOfStarts_18 (by decide) zc_128).trans (zif ?_ rfl)
    refine (rn_a2 d_M_allOfStarts_19 rfl).trans ?_
    refine (rn_st d_M_allOfStarts_20 rfl rfl rfl (by decide) rfl (Nat.le_of_ble_eq_true rfl) (ls' := [some (.ref 123), some (.int (x1 + (h.1 128 (Int32.toNatClampNeg x2)))), some (.int x2)]) rfl).trans ?_
    refine (rn_inc d_M_allOfStarts_21 rfl (c := 1) (by decide) (ls' := [some (.ref 123), some (.int (x1 + (h.1 128 (Int32.toNatClampNeg x2)))), some (.int (x2 + 1))]) rfl).trans ?_
    refine (rn_goto d_M_allOfStarts_24 (t := 4) (by decide)).trans ?_
    rfl
theorem e_M_allOfStarts {X : zX} {h : zH} : zcf X m_M_allOfStarts [.ref 123] h = zrn X 0 m_M_allOfStarts 4 [some (.ref 123), some (.int 0), some (.int 0)] [] h := by
  refine (zcf_run (Nat.le_of_ble_eq_true rfl)).trans ?_
  show zrn X 0 m_M_allOfStarts 0 [some (.ref 123), none, none] [] h = _
  refine (rn_push d_M_allOfStarts_0 zcs_iconst_0).trans ?_
  refine (rn_st d_M_allOfStarts_1 rfl rfl rfl (by decide) rfl (Nat.le_of_ble_eq_true rfl) (ls' := [some (.ref 123), some (.int 0), none]) rfl).trans ?_
  refine (rn_push d_M_allOfStarts_2 zcs_iconst_0).trans ?_
  refine (rn_st d_M_allOfStarts_3 rfl rfl rfl (by decide) rfl (Nat.le_of_ble_eq_true rfl) (ls' := [some (.ref 123), some (.int 0), some (.int 0)]) rfl).trans ?_
  rfl
theorem e_M_behind {X : zX} {x1 : Int32} {x2 : Int32} {x3 : Int32} {h : zH} : zcf X m_M_behind [.ref 123, .int x1, .int x2, .int x3] h = (zbI (zcf X m_M_isOne [.ref 123, .int x1] ((zup h.1 123 7 0), h.2)) fun v2 h1 => (if v2 = 0 then (zbI (zcf X m_M_wrongBit [.int (-1), .int x3, .int 5] h1) fun v4 h3 => (if 0 ≤ v4 then (zbV (zcf X m_M_think [.ref 123] h3) fun h5 => (zbV (zcf X m_M_goNights [.ref 123, .int x2] h5) fun h6 => (if x3 = 0 then (if zin x1 7 = true then (zbV (zcf X m_M_again [.ref 123] h6) fun h8 => (some (some (.int (h6.1 126 (Int32.toNatClampNeg x1))), h8))) else none) else (if x3 = 1 then (if zin x1 7 = true then (zbV (zcf X m_M_again [.ref 123] h6) fun h10 => (some (some (.int (h6.1 127 (Int32.toNatClampNeg x1))), h10))) else none) else (if x3 = 2 then (if zin x1 7 = true then (zbV (zcf X m_M_again [.ref 123] h6) fun h12 => (some (some (.int (h6.1 128 (Int32.toNatClampNeg x1))), h12))) else none) else (if x3 = 3 then (zbI (zcf X m_M_aheadOf [.ref 123, .int x1] h6) fun v15 h14 => (zbV (zcf X m_M_again [.ref 123] h14) fun h16 => (some (some (.int v15), h16)))) else (if x3 = 4 then (zbI (zcf X m_M_lensOf [.ref 123, .int x1] h6) fun v19 h18 => (zbV (zcf X m_M_again [.ref 123] h18) fun h20 => (some (some (.int v19), h20)))) else (zbI (zcf X m_M_watchersOf [.ref 123, .int x1] h6) fun v22 h21 => (zbV (zcf X m_M_again [.ref 123] h21) fun h23 => (some (some (.int v22), h23))))))))))) else (zbI (zcf X m_M_refuse [.ref 123, .int v4] h3) fun v25 h24 => (some (some (.int v25), h24))))) else (zbI (zcf X m_M_wrongNumber [.int x2, .int 0, .int 60] h1) fun v27 h26 => (zbI (zcf X m_M_wrongBit [.int v27, .int x3, .int 5] h26) fun v29 h28 => (if 0 ≤ v29 then (zbV (zcf X m_M_think [.ref 123] h28) fun h30 => (zbV (zcf X m_M_goNights [.ref 123, .int x2] h30) fun h31 => (if x3 = 0 then (if zin x1 7 = true then (zbV (zcf X m_M_again [.ref 123] h31) fun h33 => (some (some (.int (h31.1 126 (Int32.toNatClampNeg x1))), h33))) else none) else (if x3 = 1 then (if zin x1 7 = true then (zbV (zcf X m_M_again [.ref 123] h31) fun h35 => (some (some (.int (h31.1 127 (Int32.toNatClampNeg x1))), h35))) else none) else (if x3 = 2 then (if zin x1 7 = true then (zbV (zcf X m_M_again [.ref 123] h31) fun h37 => (some (some (.int (h31.1 128 (Int32.toNatClampNeg x1))), h37))) else none) else (if x3 = 3 then (zbI (zcf X m_M_aheadOf [.ref 123, .int x1] h31) fun v40 h39 => (zbV (zcf X m_M_again [.ref 123] h39) fun h41 => (some (some (.int v40), h41)))) else (if x3 = 4 then (zbI (zcf X m_M_lensOf [.ref 123, .int x1] h31) fun v44 h43 => (zbV (zcf X m_M_again [.ref 123] h43) fun h45 => (some (some (.int v44), h45)))) else (zbI (zcf X m_M_watchersOf [.ref 123, .int x1] h31) fun v47 h46 => (zbV (zcf X m_M_again [.ref 123] h46) fun h48 => (some (some (.int v47), h48))))))))))) else (zbI (zcf X m_M_refuse [.ref 123, .int v29] h28) fun v50 h49 => (some (some (.int v50), h49)))))))) := by
  refine (zcf_run (Nat.le_of_ble_eq_true rfl)).trans ?_
  show zrn X 7 m_M_behind 0 [some (.ref 123), some (.int x1), some (.int x2), some (.int x3), none, none] [] h = _
  refine (rn_ld d_M_behind_0 rfl rfl rfl rfl).trans ?_
  refine (rn_push d_M_behind_1 zcs_iconst_0).trans ?_
  refine (rn_pi d_M_behind_2 f_4_61 zc_123).trans ?_
  refine (rn_ld d_M_behind_5 rfl rfl rfl rfl).trans ?_
  refine (rn_ld d_M_behind_6 rfl rfl rfl rfl).trans ?_
  refine (rn_vI d_M_behind_7 (zinv_v l_4_72 (by decide) (Nat.le_of_ble_eq_true rfl) rfl rfl zc_123 (Nat.le_of_ble_eq_true rfl)) (Nat.le_of_ble_eq_true rfl) (Or.inr rfl)).trans (zbI_congr fun v2 h1 => ?_)
  refine (rn_if_eq d_M_behind_10 (t := 23) (by decide)).trans (zif ?_ ?_)
  · refine (rn_push d_M_behind_23 zcs_iconst_m1).trans ?_
    refine (rn_ld d_M_behind_24 rfl rfl rfl rfl).trans ?_
    refine (rn_push d_M_behind_25 zcs_iconst_5).trans ?_
    refine (rn_sI d_M_behind_26 nb_4_215 (zinv_s l_4_215 (by decide) (Nat.le_of_ble_eq_true rfl) rfl rfl (Nat.le_of_ble_eq_true rfl)) (Nat.le_of_ble_eq_true rfl) (Or.inl rfl)).trans (zbI_congr fun v4 h3 => ?_)
    refine (rn_st d_M_behind_29 rfl rfl rfl (by decide) rfl (Nat.le_of_ble_eq_true rfl) (ls' := [some (.ref 123), some (.int x1), some (.int x2), some (.int x3), some (.int v4), none]) rfl).trans ?_
    refine (rn_ld d_M_behind_31 rfl rfl rfl rfl).trans ?_
    refine (rn_if_ge d_M_behind_33 (t := 43) (by decide)).trans (zif ?_ ?_)
    · refine (rn_ld d_M_behind_43 rfl rfl rfl rfl).trans ?_
      refine (rn_vV d_M_behind_44 (zinv_v l_4_168 (by decide) (Nat.le_of_ble_eq_true rfl) rfl rfl zc_123 (Nat.le_of_ble_eq_true rfl)) (Nat.le_of_ble_eq_true rfl) rfl).trans (zbV_congr fun h5 => ?_)
      refine (rn_ld d_M_behind_47 rfl rfl rfl rfl).trans ?_
      refine (rn_ld d_M_behind_48 rfl rfl rfl rfl).trans ?_
      refine (rn_vV d_M_behind_49 (zinv_v l_4_162 (by decide) (Nat.le_of_ble_eq_true rfl) rfl rfl zc_123 (Nat.le_of_ble_eq_true rfl)) (Nat.le_of_ble_eq_true rfl) rfl).trans (zbV_congr fun h6 => ?_)
      refine (rn_push d_M_behind_52 zcs_iconst_0).trans ?_
      refine (rn_st d_M_behind_53 rfl rfl rfl (by decide) rfl (Nat.le_of_ble_eq_true rfl) (ls' := [some (.ref 123), some (.int x1), some (.int x2), some (.int x3), some (.int v4), some (.int 0)]) rfl).trans ?_
      refine (rn_ld d_M_behind_55 rfl rfl rfl rfl).trans ?_
      refine zite (fun q7 => ?_) (fun q7 => ?_)
      · refine (rn_tsw d_M_behind_56 (t := 92) (by rw [q7]; decide +kernel)).trans ?_
        refine (rn_ld d_M_behind_92 rfl rfl rfl rfl).trans ?_
        refine (rn_gr d_M_behind_93 f_4_16 zc_123 zr_123_3).trans ?_
        refine (rn_ld d_M_behind_96 rfl rfl rfl rfl).trans ?_
        refine (rn_ial d_M_behind_97 (by decide) zc_126).trans (zif ?_ rfl)
        refine (rn_st d_M_behind_98 rfl rfl rfl (by decide) rfl (Nat.le_of_ble_eq_true rfl) (ls' := [some (.ref 123), some (.int x1), some (.int x2), some (.int x3), some (.int v4), some (.int (h6.1 126 (Int32.toNatClampNeg x1)))]) rfl).trans ?_
        refine (rn_goto d_M_behind_100 (t := 152) (by decide)).trans ?_
        refine (rn_ld d_M_behind_152 rfl rfl rfl rfl).trans ?_
        refine (rn_vV d_M_behind_153 (zinv_v l_4_174 (by decide) (Nat.le_of_ble_eq_true rfl) rfl rfl zc_123 (Nat.le_of_ble_eq_true rfl)) (Nat.le_of_ble_eq_true rfl) rfl).trans (zbV_congr fun h8 => ?_)
        refine (rn_ld d_M_behind_156 rfl rfl rfl rfl).trans ?_
        exact rn_ri d_M_behind_158 rfl
      · refine zite (fun q9 => ?_) (fun q9 => ?_)
        · refine (rn_tsw d_M_behind_56 (t := 103) (by rw [q9]; decide +kernel)).trans ?_
          refine (rn_ld d_M_behind_103 rfl rfl rfl rfl).trans ?_
          refine (rn_gr d_M_behind_104 f_4_19 zc_123 zr_123_4).trans ?_
          refine (rn_ld d_M_behind_107 rfl rfl rfl rfl).trans ?_
          refine (rn_ial d_M_behind_108 (by decide) zc_127).trans (zif ?_ rfl)
          refine (rn_st d_M_behind_109 rfl rfl rfl (by decide) rfl (Nat.le_of_ble_eq_true rfl) (ls' := [some (.ref 123), some (.int x1), some (.int x2), some (.int x3), some (.int v4), some (.int (h6.1 127 (Int32.toNatClampNeg x1)))]) rfl).trans ?_
          refine (rn_goto d_M_behind_111 (t := 152) (by decide)).trans ?_
          refine (rn_ld d_M_behind_152 rfl rfl rfl rfl).trans ?_
          refine (rn_vV d_M_behind_153 (zinv_v l_4_174 (by decide) (Nat.le_of_ble_eq_true rfl) rfl rfl zc_123 (Nat.le_of_ble_eq_true rfl)) (Nat.le_of_ble_eq_true rfl) rfl).trans (zbV_congr fun h10 => ?_)
          refine (rn_ld d_M_behind_156 rfl rfl rfl rfl).trans ?_
          exact rn_ri d_M_behind_158 rfl
        · refine zite (fun q11 => ?_) (fun q11 => ?_)
          · refine (rn_tsw d_M_behind_56 (t := 114) (by rw [q11]; decide +kernel)).trans ?_
            refine (rn_ld d_M_behind_114 rfl rfl rfl rfl).trans ?_
            refine (rn_gr d_M_behind_115 f_4_22 zc_123 zr_123_5).trans ?_
            refine (rn_ld d_M_behind_118 rfl rfl rfl rfl).trans ?_
            refine (rn_ial d_M_behind_119 (by decide) zc_128).trans (zif ?_ rfl)
            refine (rn_st d_M_behind_120 rfl rfl rfl (by decide) rfl (Nat.le_of_ble_eq_true rfl) (ls' := [some (.ref 123), some (.int x1), some (.int x2), some (.int x3), some (.int v4), some (.int (h6.1 128 (Int32.toNatClampNeg x1)))]) rfl).trans ?_
            refine (rn_goto d_M_behind_122 (t := 152) (by decide)).trans ?_
            refine (rn_ld d_M_behind_152 rfl rfl rfl rfl).trans ?_
            refine (rn_vV d_M_behind_153 (zinv_v l_4_174 (by decide) (Nat.le_of_ble_eq_true rfl) rfl rfl zc_123 (Nat.le_of_ble_eq_true rfl)) (Nat.le_of_ble_eq_true rfl) rfl).trans (zbV_congr fun h12 => ?_)
            refine (rn_ld d_M_behind_156 rfl rfl rfl rfl).trans ?_
            exact rn_ri d_M_behind_158 rfl
          · refine zite (fun q13 => ?_) (fun q13 => ?_)
            · refine (rn_tsw d_M_behind_56 (t := 125) (by rw [q13]; decide +kernel)).trans ?_
              refine (rn_ld d_M_behind_125 rfl rfl rfl rfl).trans ?_
              refine (rn_ld d_M_behind_126 rfl rfl rfl rfl).trans ?_
              refine (rn_vI d_M_behind_127 (zinv_v l_4_97 (by decide) (Nat.le_of_ble_eq_true rfl) rfl rfl zc_123 (Nat.le_of_ble_eq_true rfl)) (Nat.le_of_ble_eq_true rfl) (Or.inl rfl)).trans (zbI_congr fun v15 h14 => ?_)
              refine (rn_st d_M_behind_130 rfl rfl rfl (by decide) rfl (Nat.le_of_ble_eq_true rfl) (ls' := [some (.ref 123), some (.int x1), some (.int x2), some (.int x3), some (.int v4), some (.int v15)]) rfl).trans ?_
              refine (rn_goto d_M_behind_132 (t := 152) (by decide)).trans ?_
              refine (rn_ld d_M_behind_152 rfl rfl rfl rfl).trans ?_
              refine (rn_vV d_M_behind_153 (zinv_v l_4_174 (by decide) (Nat.le_of_ble_eq_true rfl) rfl rfl zc_123 (Nat.le_of_ble_eq_true rfl)) (Nat.le_of_ble_eq_true rfl) rfl).trans (zbV_congr fun h16 => ?_)
              refine (rn_ld d_M_behind_156 rfl rfl rfl rfl).trans ?_
              exact rn_ri d_M_behind_158 rfl
            · refine zite (fun q17 => ?_) (fun q17 => ?_)
              · refine (rn_tsw d_M_behind_56 (t := 135) (by rw [q17]; decide +kernel)).trans ?_
                refine (rn_ld d_M_behind_135 rfl rfl rfl rfl).trans ?_
                refine (rn_ld d_M_behind_136 rfl rfl rfl rfl).trans ?_
                refine (rn_vI d_M_behind_137 (zinv_v l_4_113 (by decide) (Nat.le_of_ble_eq_true rfl) rfl rfl zc_123 (Nat.le_of_ble_eq_true rfl)) (Nat.le_of_ble_eq_true rfl) (Or.inl rfl)).trans (zbI_congr fun v19 h18 => ?_)
                refine (rn_st d_M_behind_140 rfl rfl rfl (by decide) rfl (Nat.le_of_ble_eq_true rfl) (ls' := [some (.ref 123), some (.int x1), some (.int x2), some (.int x3), some (.int v4), some (.int v19)]) rfl).trans ?_
                refine (rn_goto d_M_behind_142 (t := 152) (by decide)).trans ?_
                refine (rn_ld d_M_behind_152 rfl rfl rfl rfl).trans ?_
                refine (rn_vV d_M_behind_153 (zinv_v l_4_174 (by decide) (Nat.le_of_ble_eq_true rfl) rfl rfl zc_123 (Nat.le_of_ble_eq_true rfl)) (Nat.le_of_ble_eq_true rfl) rfl).trans (zbV_congr fun h20 => ?_)
                refine (rn_ld d_M_behind_156 rfl rfl rfl rfl).trans ?_
                exact rn_ri d_M_behind_158 rfl
              · refine (rn_tsw d_M_behind_56 (t := 145) (zsw_out (by have z0 := lv_neT q7 (a := 0) rfl; have z1 := lv_neT q9 (a := 1) rfl; have z2 := lv_neT q11 (a := 2) rfl; have z3 := lv_neT q13 (a := 3) rfl; have z4 := lv_neT q17 (a := 4) rfl; omega) (by decide))).trans ?_
                refine (rn_ld d_M_behind_145 rfl rfl rfl rfl).trans ?_
                refine (rn_ld d_M_behind_146 rfl rfl rfl rfl).trans ?_
                refine (rn_vI d_M_behind_147 (zinv_v l_4_218 (by decide) (Nat.le_of_ble_eq_true rfl) rfl rfl zc_123 (Nat.le_of_ble_eq_true rfl)) (Nat.le_of_ble_eq_true rfl) (Or.inl rfl)).trans (zbI_congr fun v22 h21 => ?_)
                refine (rn_st d_M_behind_150 rfl rfl rfl (by decide) rfl (Nat.le_of_ble_eq_true rfl) (ls' := [some (.ref 123), some (.int x1), some (.int x2), some (.int x3), some (.int v4), some (.int v22)]) rfl).trans ?_
                refine (rn_ld d_M_behind_152 rfl rfl rfl rfl).trans ?_
                refine (rn_vV d_M_behind_153 (zinv_v l_4_174 (by decide) (Nat.le_of_ble_eq_true rfl) rfl rfl zc_123 (Nat.le_of_ble_eq_true rfl)) (Nat.le_of_ble_eq_true rfl) rfl).trans (zbV_congr fun h23 => ?_)
                refine (rn_ld d_M_behind_156 rfl rfl rfl rfl).trans ?_
                exact rn_ri d_M_behind_158 rfl
    · refine (rn_ld d_M_behind_36 rfl rfl rfl rfl).trans ?_
      refine (rn_ld d_M_behind_37 rfl rfl rfl rfl).trans ?_
      refine (rn_vI d_M_behind_39 (zinv_v l_4_123 (by decide) (Nat.le_of_ble_eq_true rfl) rfl rfl zc_123 (Nat.le_of_ble_eq_true rfl)) (Nat.le_of_ble_eq_true rfl) (Or.inl rfl)).trans (zbI_congr fun v25 h24 => ?_)
      exact rn_ri d_M_behind_42 rfl
  · refine (rn_ld d_M_behind_13 rfl rfl rfl rfl).trans ?_
    refine (rn_push d_M_behind_14 zcs_iconst_0).trans ?_
    refine (rn_push d_M_behind_15 zcs_bipush_60).trans ?_
    refine (rn_sI d_M_behind_17 nb_4_201 (zinv_s l_4_201 (by decide) (Nat.le_of_ble_eq_true rfl) rfl rfl (Nat.le_of_ble_eq_true rfl)) (Nat.le_of_ble_eq_true rfl) (Or.inl rfl)).trans (zbI_congr fun v27 h26 => ?_)
    refine (rn_goto d_M_behind_20 (t := 24) (by decide)).trans ?_
    refine (rn_ld d_M_behind_24 rfl rfl rfl rfl).trans ?_
    refine (rn_push d_M_behind_25 zcs_iconst_5).trans ?_
    refine (rn_sI d_M_behind_26 nb_4_215 (zinv_s l_4_215 (by decide) (Nat.le_of_ble_eq_true rfl) rfl rfl (Nat.le_of_ble_eq_true rfl)) (Nat.le_of_ble_eq_true rfl) (Or.inl rfl)).trans (zbI_congr fun v29 h28 => ?_)
    refine (rn_st d_M_behind_29 rfl rfl rfl (by decide) rfl (Nat.le_of_ble_eq_true rfl) (ls' := [some (.ref 123), some (.int x1), some (.int x2), some (.int x3), some (.int v29), none]) rfl).trans ?_
    refine (rn_ld d_M_behind_31 rfl rfl rfl rfl).trans ?_
    refine (rn_if_ge d_M_behind_33 (t := 43) (by decide)).trans (zif ?_ ?_)
    · refine (rn_ld d_M_behind_43 rfl rfl rfl rfl).trans ?_
      refine (rn_vV d_M_behind_44 (zinv_v l_4_168 (by decide) (Nat.le_of_ble_eq_true rfl) rfl rfl zc_123 (Nat.le_of_ble_eq_true rfl)) (Nat.le_of_ble_eq_true rfl) rfl).trans (zbV_congr fun h30 => ?_)
      refine (rn_ld d_M_behind_47 rfl rfl rfl rfl).trans ?_
      refine (rn_ld d_M_behind_48 rfl rfl rfl rfl).trans ?_
      refine (rn_vV d_M_behind_49 (zinv_v l_4_162 (by decide) (Nat.le_of_ble_eq_true rfl) rfl rfl zc_123 (Nat.le_of_ble_eq_true rfl)) (Nat.le_of_ble_eq_true rfl) rfl).trans (zbV_congr fun h31 => ?_)
      refine (rn_push d_M_behind_52 zcs_iconst_0).trans ?_
      refine (rn_st d_M_behind_53 rfl rfl rfl (by decide) rfl (Nat.le_of_ble_eq_true rfl) (ls' := [some (.ref 123), some (.int x1), some (.int x2), some (.int x3), some (.int v29), some (.int 0)]) rfl).trans ?_
      refine (rn_ld d_M_behind_55 rfl rfl rfl rfl).trans ?_
      refine zite (fun q32 => ?_) (fun q32 => ?_)
      · refine (rn_tsw d_M_behind_56 (t := 92) (by rw [q32]; decide +kernel)).trans ?_
        refine (rn_ld d_M_behind_92 rfl rfl rfl rfl).trans ?_
        refine (rn_gr d_M_behind_93 f_4_16 zc_123 zr_123_3).trans ?_
        refine (rn_ld d_M_behind_96 rfl rfl rfl rfl).trans ?_
        refine (rn_ial d_M_behind_97 (by decide) zc_126).trans (zif ?_ rfl)
        refine (rn_st d_M_behind_98 rfl rfl rfl (by decide) rfl (Nat.le_of_ble_eq_true rfl) (ls' := [some (.ref 123), some (.int x1), some (.int x2), some (.int x3), some (.int v29), some (.int (h31.1 126 (Int32.toNatClampNeg x1)))]) rfl).trans ?_
        refine (rn_goto d_M_behind_100 (t := 152) (by decide)).trans ?_
        refine (rn_ld d_M_behind_152 rfl rfl rfl rfl).trans ?_
        refine (rn_vV d_M_behind_153 (zinv_v l_4_174 (by decide) (Nat.le_of_ble_eq_true rfl) rfl rfl zc_123 (Nat.le_of_ble_eq_true rfl)) (Nat.le_of_ble_eq_true rfl) rfl).trans (zbV_congr fun h33 => ?_)
        refine (rn_ld d_M_behind_156 rfl rfl rfl rfl).trans ?_
        exact rn_ri d_M_behind_158 rfl
      · refine zite (fun q34 => ?_) (fun q34 => ?_)
        · refine (rn_tsw d_M_behind_56 (t := 103) (by rw [q34]; decide +kernel)).trans ?_
          refine (rn_ld d_M_behind_103 rfl rfl rfl rfl).trans ?_
          refine (rn_gr d_M_behind_104 f_4_19 zc_123 zr_123_4).trans ?_
          refine (rn_ld d_M_behind_107 rfl rfl rfl rfl).trans ?_
          refine (rn_ial d_M_behind_108 (by decide) zc_127).trans (zif ?_ rfl)
          refine (rn_st d_M_behind_109 rfl rfl rfl (by decide) rfl (Nat.le_of_ble_eq_true rfl) (ls' := [some (.ref 123), some (.int x1), some (.int x2), some (.int x3), some (.int v29), some (.int (h31.1 127 (Int32.toNatClampNeg x1)))]) rfl).trans ?_
          refine (rn_goto d_M_behind_111 (t := 152) (by decide)).trans ?_
          refine (rn_ld d_M_behind_152 rfl rfl rfl rfl).trans ?_
          refine (rn_vV d_M_behind_153 (zinv_v l_4_174 (by decide) (Nat.le_of_ble_eq_true rfl) rfl rfl zc_123 (Nat.le_of_ble_eq_true rfl)) (Nat.le_of_ble_eq_true rfl) rfl).trans (zbV_congr fun h35 => ?_)
          refine (rn_ld d_M_behind_156 rfl rfl rfl rfl).trans ?_
          exact rn_ri d_M_behind_158 rfl
        · refine zite (fun q36 => ?_) (fun q36 => ?_)
          · refine (rn_tsw d_M_behind_56 (t := 114) (by rw [q36]; decide +kernel)).trans ?_
            refine (rn_ld d_M_behind_114 rfl rfl rfl rfl).trans ?_
            refine (rn_gr d_M_behind_115 f_4_22 zc_123 zr_123_5).trans ?_
            refine (rn_ld d_M_behind_118 rfl rfl rfl rfl).trans ?_
            refine (rn_ial d_M_behind_119 (by decide) zc_128).trans (zif ?_ rfl)
            refine (rn_st d_M_behind_120 rfl rfl rfl (by decide) rfl (Nat.le_of_ble_eq_true rfl) (ls' := [some (.ref 123), some (.int x1), some (.int x2), some (.int x3), some (.int v29), some (.int (h31.1 128 (Int32.toNatClampNeg x1)))]) rfl).trans ?_
            refine (rn_goto d_M_behind_122 (t := 152) (by decide)).trans ?_
            refine (rn_ld d_M_behind_152 rfl rfl rfl rfl).trans ?_
            refine (rn_vV d_M_behind_153 (zinv_v l_4_174 (by decide) (Nat.le_of_ble_eq_true rfl) rfl rfl zc_123 (Nat.le_of_ble_eq_true rfl)) (Nat.le_of_ble_eq_true rfl) rfl).trans (zbV_congr fun h37 => ?_)
            refine (rn_ld d_M_behind_156 rfl rfl rfl rfl).trans ?_
            exact rn_ri d_M_behind_158 rfl
          · refine zite (fun q38 => ?_) (fun q38 => ?_)
            · refine (rn_tsw d_M_behind_56 (t := 125) (by rw [q38]; decide +kernel)).trans ?_
              refine (rn_ld d_M_behind_125 rfl rfl rfl rfl).trans ?_
              refine (rn_ld d_M_behind_126 rfl rfl rfl rfl).trans ?_
              refine (rn_vI d_M_behind_127 (zinv_v l_4_97 (by decide) (Nat.le_of_ble_eq_true rfl) rfl rfl zc_123 (Nat.le_of_ble_eq_true rfl)) (Nat.le_of_ble_eq_true rfl) (Or.inl rfl)).trans (zbI_congr fun v40 h39 => ?_)
              refine (rn_st d_M_behind_130 rfl rfl rfl (by decide) rfl (Nat.le_of_ble_eq_true rfl) (ls' := [some (.ref 123), some (.int x1), some (.int x2), some (.int x3), some (.int v29), some (.int v40)]) rfl).trans ?_
              refine (rn_goto d_M_behind_132 (t := 152) (by decide)).trans ?_
              refine (rn_ld d_M_behind_152 rfl rfl rfl rfl).trans ?_
              refine (rn_vV d_M_behind_153 (zinv_v l_4_174 (by decide) (Nat.le_of_ble_eq_true rfl) rfl rfl zc_123 (Nat.le_of_ble_eq_true rfl)) (Nat.le_of_ble_eq_true rfl) rfl).trans (zbV_congr fun h41 => ?_)
              refine (rn_ld d_M_behind_156 rfl rfl rfl rfl).trans ?_
              exact rn_ri d_M_behind_158 rfl
            · refine zite (fun q42 => ?_) (fun q42 => ?_)
              · refine (rn_tsw d_M_behind_56 (t := 135) (by rw [q42]; decide +kernel)).trans ?_
                refine (rn_ld d_M_behind_135 rfl rfl rfl rfl).trans ?_
                refine (rn_ld d_M_behind_136 rfl rfl rfl rfl).trans ?_
                refine (rn_vI d_M_behind_137 (zinv_v l_4_113 (by decide) (Nat.le_of_ble_eq_true rfl) rfl rfl zc_123 (Nat.le_of_ble_eq_true rfl)) (Nat.le_of_ble_eq_true rfl) (Or.inl rfl)).trans (zbI_congr fun v44 h43 => ?_)
                refine (rn_st d_M_behind_140 rfl rfl rfl (by decide) rfl (Nat.le_of_ble_eq_true rfl) (ls' := [some (.ref 123), some (.int x1), some (.int x2), some (.int x3), some (.int v29), some (.int v44)]) rfl).trans ?_
                refine (rn_goto d_M_behind_142 (t := 152) (by decide)).trans ?_
                refine (rn_ld d_M_behind_152 rfl rfl rfl rfl).trans ?_
                refine (rn_vV d_M_behind_153 (zinv_v l_4_174 (by decide) (Nat.le_of_ble_eq_true rfl) rfl rfl zc_123 (Nat.le_of_ble_eq_true rfl)) (Nat.le_of_ble_eq_true rfl) rfl).trans (zbV_congr fun h45 => ?_)
                refine (rn_ld d_M_behind_156 rfl rfl rfl rfl).trans ?_
                exact rn_ri d_M_behind_158 rfl
              · refine (rn_tsw d_M_behind_56 (t := 145) (zsw_out (by have z0 := lv_neT q32 (a := 0) rfl; have z1 := lv_neT q34 (a := 1) rfl; have z2 := lv_neT q36 (a := 2) rfl; have z3 := lv_neT q38 (a := 3) rfl; have z4 := lv_neT q42 (a := 4) rfl; omega) (by decide))).trans ?_
                refine (rn_ld d_M_behind_145 rfl rfl rfl rfl).trans ?_
                refine (rn_ld d_M_behind_146 rfl rfl rfl rfl).trans ?_
                refine (rn_vI d_M_behind_147 (zinv_v l_4_218 (by decide) (Nat.le_of_ble_eq_true rfl) rfl rfl zc_123 (Nat.le_of_ble_eq_true rfl)) (Nat.le_of_ble_eq_true rfl) (Or.inl rfl)).trans (zbI_congr fun v47 h46 => ?_)
                refine (rn_st d_M_behind_150 rfl rfl rfl (by decide) rfl (Nat.le_of_ble_eq_true rfl) (ls' := [some (.ref 123), some (.int x1), some (.int x2), some (.int x3), some (.int v29), some (.int v47)]) rfl).trans ?_
                refine (rn_ld d_M_behind_152 rfl rfl rfl rfl).trans ?_
                refine (rn_vV d_M_behind_153 (zinv_v l_4_174 (by decide) (Nat.le_of_ble_eq_true rfl) rfl rfl zc_123 (Nat.le_of_ble_eq_true rfl)) (Nat.le_of_ble_eq_true rfl) rfl).trans (zbV_congr fun h48 => ?_)
                refine (rn_ld d_M_behind_156 rfl rfl rfl rfl).trans ?_
                exact rn_ri d_M_behind_158 rfl
    · refine (rn_ld d_M_behind_36 rfl rfl rfl rfl).trans ?_
      refine (rn_ld d_M_behind_37 rfl rfl rfl rfl).trans ?_
      refine (rn_vI d_M_behind_39 (zinv_v l_4_123 (by decide) (Nat.le_of_ble_eq_true rfl) rfl rfl zc_123 (Nat.le_of_ble_eq_true rfl)) (Nat.le_of_ble_eq_true rfl) (Or.inl rfl)).trans (zbI_congr fun v50 h49 => ?_)
      exact rn_ri d_M_behind_42 rfl
theorem e_M_wrongBit {X : zX} {x0 : Int32} {x1 : Int32} {x2 : Int32} {h : zH} : zcf X m_M_wrongBit [.int x0, .int x1, .int x2] h = (if x0 = 0 then (zbI (zcf X m_M_in [.long (Int32.toInt64 x1), .long 0, .long (Int32.toInt64 x2)] h) fun v2 h1 => (if v2 = 0 then (some (some (.int (-2)), h1)) else (some (some (.int x0), h1)))) else (some (some (.int x0), h))) := by
  refine (zcf_run (Nat.le_of_ble_eq_true rfl)).trans ?_
  show zrn X 1 m_M_wrongBit 0 [some (.int x0), some (.int x1), some (.int x2)] [] h = _
  refine (rn_ld d_M_wrongBit_0 rfl rfl rfl rfl).trans ?_
  refine (rn_if_ne d_M_wrongBit_1 (t := 20) (by decide)).trans (zif ?_ ?_)
  · refine (rn_ld d_M_wrongBit_4 rfl rfl rfl rfl).trans ?_
    refine (rn_i2l d_M_wrongBit_5).trans ?_
    refine (rn_push d_M_wrongBit_6 zcs_lconst_0).trans ?_
    refine (rn_ld d_M_wrongBit_7 rfl rfl rfl rfl).trans ?_
    refine (rn_i2l d_M_wrongBit_8).trans ?_
    refine (rn_sI d_M_wrongBit_9 nb_4_68 (zinv_s l_4_68 (by decide) (Nat.le_of_ble_eq_true rfl) rfl rfl (Nat.le_of_ble_eq_true rfl)) (Nat.le_of_ble_eq_true rfl) (Or.inr rfl)).trans (zbI_congr fun v2 h1 => ?_)
    refine (rn_if_ne d_M_wrongBit_12 (t := 20) (by decide)).trans (zif ?_ ?_)
    · refine (rn_push d_M_wrongBit_15 zcs_bipush_m2).trans ?_
      refine (rn_goto d_M_wrongBit_17 (t := 21) (by decide)).trans ?_
      exact rn_ri d_M_wrongBit_21 rfl
    · refine (rn_ld d_M_wrongBit_20 rfl rfl rfl rfl).trans ?_
      exact rn_ri d_M_wrongBit_21 rfl
  · refine (rn_ld d_M_wrongBit_20 rfl rfl rfl rfl).trans ?_
    exact rn_ri d_M_wrongBit_21 rfl
theorem b_M_watchersOf_4 {X : zX} {x1 : Int32} {x2 : Int32} {x3 : Int32} {h : zH} : zrn X 4 m_M_watchersOf 4 [some (.ref 123), some (.int x1), some (.int x2), some (.int x3)] [] h = (if (h.1 123 0) ≤ x3 then (some (some (.int x2), h)) else (zbI (zcf X m_M_aheadOf [.ref 123, .int x3] h) fun v2 h1 => zrn X 4 m_M_watchersOf 4 [some (.ref 123), some (.int x1), some (.int (x2 ||| (if v2 = x1 then ((1 : Int32) <<< (x3 &&& 31)) else 0))), some (.int (x3 + 1))] [] h1)) := by
  refine (rn_ld d_M_watchersOf_4 rfl rfl rfl rfl).trans ?_
  refine (rn_ld d_M_watchersOf_5 rfl rfl rfl rfl).trans ?_
  refine (rn_gi d_M_watchersOf_6 f_4_65 zc_123).trans ?_
  refine (rn_ic_ge d_M_watchersOf_9 (t := 37) (by decide)).trans (zif ?_ ?_)
  · refine (rn_ld d_M_watchersOf_37 rfl rfl rfl rfl).trans ?_
    exact rn_ri d_M_watchersOf_38 rfl
  · refine (rn_ld d_M_watchersOf_12 rfl rfl rfl rfl).trans ?_
    refine (rn_ld d_M_watchersOf_13 rfl rfl rfl rfl).trans ?_
    refine (rn_ld d_M_watchersOf_14 rfl rfl rfl rfl).trans ?_
    refine (rn_vI d_M_watchersOf_15 (zinv_v l_4_97 (by decide) (Nat.le_of_ble_eq_true rfl) rfl rfl zc_123 (Nat.le_of_ble_eq_true rfl)) (Nat.le_of_ble_eq_true rfl) (Or.inl rfl)).trans (zbI_congr fun v2 h1 => ?_)
    refine (rn_ld d_M_watchersOf_18 rfl rfl rfl rfl).trans ?_
    refine Eq.trans (b := zrn X 4 m_M_watchersOf 29 [some (.ref 123), some (.int x1), some (.int x2), some (.int x3)] [.int (if v2 = x1 then ((1 : Int32) <<< (x3 &&& 31)) else 0), .int x2] h1) ?_ ?_
    · refine (rn_ic_ne d_M_watchersOf_19 (t := 28) (by decide)).trans ?_
      by_cases q3 : v2 = x1
      · simp only [if_pos q3]
        refine (rn_push d_M_watchersOf_22 zcs_iconst_1).trans ?_
        refine (rn_ld d_M_watchersOf_23 rfl rfl rfl rfl).trans ?_
        refine (rn_a2 d_M_watchersOf_24 rfl).trans ?_
        refine (rn_goto d_M_watchersOf_25 (t := 29) (by decide)).trans ?_
        all_goals rfl
      · simp only [if_neg q3]
        refine (rn_push d_M_watchersOf_28 zcs_iconst_0).trans ?_
        all_goals rfl
    refine (rn_a2 d_M_watchersOf_29 rfl).trans ?_
    refine (rn_st d_M_watchersOf_30 rfl rfl rfl (by decide) rfl (Nat.le_of_ble_eq_true rfl) (ls' := [some (.ref 123), some (.int x1), some (.int (x2 ||| (if v2 = x1 then ((1 : Int32) <<< (x3 &&& 31)) else 0))), some (.int x3)]) rfl).trans ?_
    refine (rn_inc d_M_watchersOf_31 rfl (c := 1) (by decide) (ls' := [some (.ref 123), some (.int x1), some (.int (x2 ||| (if v2 = x1 then ((1 : Int32) <<< (x3 &&& 31)) else 0))), some (.int (x3 + 1))]) rfl).trans ?_
    refine (rn_goto d_M_watchersOf_34 (t := 4) (by decide)).trans ?_
    rfl
theorem e_M_watchersOf {X : zX} {x1 : Int32} {h : zH} : zcf X m_M_watchersOf [.ref 123, .int x1] h = zrn X 4 m_M_watchersOf 4 [some (.ref 123), some (.int x1), some (.int 0), some (.int 0)] [] h := by
  refine (zcf_run (Nat.le_of_ble_eq_true rfl)).trans ?_
  show zrn X 4 m_M_watchersOf 0 [some (.ref 123), some (.int x1), none, none] [] h = _
  refine (rn_push d_M_watchersOf_0 zcs_iconst_0).trans ?_
  refine (rn_st d_M_watchersOf_1 rfl rfl rfl (by decide) rfl (Nat.le_of_ble_eq_true rfl) (ls' := [some (.ref 123), some (.int x1), some (.int 0), none]) rfl).trans ?_
  refine (rn_push d_M_watchersOf_2 zcs_iconst_0).trans ?_
  refine (rn_st d_M_watchersOf_3 rfl rfl rfl (by decide) rfl (Nat.le_of_ble_eq_true rfl) (ls' := [some (.ref 123), some (.int x1), some (.int 0), some (.int 0)]) rfl).trans ?_
  rfl
theorem e_M_allStarts {X : zX} {x1 : Int32} {h : zH} : zcf X m_M_allStarts [.ref 123, .int x1] h = (zbI (zcf X m_M_wrongNumber [.int x1, .int 0, .int 60] ((zup h.1 123 7 0), h.2)) fun v2 h1 => (if 0 ≤ v2 then (zbV (zcf X m_M_think [.ref 123] h1) fun h3 => (zbV (zcf X m_M_goNights [.ref 123, .int x1] h3) fun h4 => (zbI (zcf X m_M_allOfStarts [.ref 123] h4) fun v6 h5 => (zbV (zcf X m_M_again [.ref 123] h5) fun h7 => (some (some (.int v6), h7)))))) else (zbI (zcf X m_M_wrongNumber [.int x1, .int 0, .int 60] h1) fun v9 h8 => (zbI (zcf X m_M_refuse [.ref 123, .int v9] h8) fun v11 h10 => (some (some (.int v11), h10)))))) := by
  refine (zcf_run (Nat.le_of_ble_eq_true rfl)).trans ?_
  show zrn X 7 m_M_allStarts 0 [some (.ref 123), some (.int x1), none] [] h = _
  refine (rn_ld d_M_allStarts_0 rfl rfl rfl rfl).trans ?_
  refine (rn_push d_M_allStarts_1 zcs_iconst_0).trans ?_
  refine (rn_pi d_M_allStarts_2 f_4_61 zc_123).trans ?_
  refine (rn_ld d_M_allStarts_5 rfl rfl rfl rfl).trans ?_
  refine (rn_push d_M_allStarts_6 zcs_iconst_0).trans ?_
  refine (rn_push d_M_allStarts_7 zcs_bipush_60).trans ?_
  refine (rn_sI d_M_allStarts_9 nb_4_201 (zinv_s l_4_201 (by decide) (Nat.le_of_ble_eq_true rfl) rfl rfl (Nat.le_of_ble_eq_true rfl)) (Nat.le_of_ble_eq_true rfl) (Or.inl rfl)).trans (zbI_congr fun v2 h1 => ?_)
  refine (rn_if_ge d_M_allStarts_12 (t := 27) (by decide)).trans (zif ?_ ?_)
  · refine (rn_ld d_M_allStarts_27 rfl rfl rfl rfl).trans ?_
    refine (rn_vV d_M_allStarts_28 (zinv_v l_4_168 (by decide) (Nat.le_of_ble_eq_true rfl) rfl rfl zc_123 (Nat.le_of_ble_eq_true rfl)) (Nat.le_of_ble_eq_true rfl) rfl).trans (zbV_congr fun h3 => ?_)
    refine (rn_ld d_M_allStarts_31 rfl rfl rfl rfl).trans ?_
    refine (rn_ld d_M_allStarts_32 rfl rfl rfl rfl).trans ?_
    refine (rn_vV d_M_allStarts_33 (zinv_v l_4_162 (by decide) (Nat.le_of_ble_eq_true rfl) rfl rfl zc_123 (Nat.le_of_ble_eq_true rfl)) (Nat.le_of_ble_eq_true rfl) rfl).trans (zbV_congr fun h4 => ?_)
    refine (rn_ld d_M_allStarts_36 rfl rfl rfl rfl).trans ?_
    refine (rn_vI d_M_allStarts_37 (zinv_v l_4_212 (by decide) (Nat.le_of_ble_eq_true rfl) rfl rfl zc_123 (Nat.le_of_ble_eq_true rfl)) (Nat.le_of_ble_eq_true rfl) (Or.inl rfl)).trans (zbI_congr fun v6 h5 => ?_)
    refine (rn_st d_M_allStarts_40 rfl rfl rfl (by decide) rfl (Nat.le_of_ble_eq_true rfl) (ls' := [some (.ref 123), some (.int x1), some (.int v6)]) rfl).trans ?_
    refine (rn_ld d_M_allStarts_41 rfl rfl rfl rfl).trans ?_
    refine (rn_vV d_M_allStarts_42 (zinv_v l_4_174 (by decide) (Nat.le_of_ble_eq_true rfl) rfl rfl zc_123 (Nat.le_of_ble_eq_true rfl)) (Nat.le_of_ble_eq_true rfl) rfl).trans (zbV_congr fun h7 => ?_)
    refine (rn_ld d_M_allStarts_45 rfl rfl rfl rfl).trans ?_
    exact rn_ri d_M_allStarts_46 rfl
  · refine (rn_ld d_M_allStarts_15 rfl rfl rfl rfl).trans ?_
    refine (rn_ld d_M_allStarts_16 rfl rfl rfl rfl).trans ?_
    refine (rn_push d_M_allStarts_17 zcs_iconst_0).trans ?_
    refine (rn_push d_M_allStarts_18 zcs_bipush_60).trans ?_
    refine (rn_sI d_M_allStarts_20 nb_4_201 (zinv_s l_4_201 (by decide) (Nat.le_of_ble_eq_true rfl) rfl rfl (Nat.le_of_ble_eq_true rfl)) (Nat.le_of_ble_eq_true rfl) (Or.inl rfl)).trans (zbI_congr fun v9 h8 => ?_)
    refine (rn_vI d_M_allStarts_23 (zinv_v l_4_123 (by decide) (Nat.le_of_ble_eq_true rfl) rfl rfl zc_123 (Nat.le_of_ble_eq_true rfl)) (Nat.le_of_ble_eq_true rfl) (Or.inl rfl)).trans (zbI_congr fun v11 h10 => ?_)
    exact rn_ri d_M_allStarts_26 rfl
theorem b_M_first_45 {X : zX} {x1 : Int32} {x2 : Int32} {x3 : Int32} {x4 : Int32} {x5 : Int32} {g6 : Option Value} {h : zH} : zrn X 6 m_M_first 45 [some (.ref 123), some (.int x1), some (.int x2), some (.int x3), some (.int x4), some (.int x5), g6] [] h = (if 60 < x5 then (zbV (zcf X m_M_again [.ref 123] h) fun h1 => (some (some (.int x4), h1))) else (if 0 ≤ x4 then (zbV (zcf X m_M_again [.ref 123] h) fun h2 => (some (some (.int x4), h2))) else (if x2 = 0 then (zbI (zcf X m_M_watchersOf [.ref 123, .int x1] h) fun v4 h3 => (zbV (zcf X m_M_nightBy [.ref 123, .int (-9)] h3) fun h7 => zrn X 6 m_M_first 45 [some (.ref 123), some (.int x1), some (.int x2), some (.int x3), some (.int (if (if v4 = 0 then (0 : Int32) else 1) = 0 then (-9 : Int32) else x5)), some (.int (x5 + 1)), some (.int (if v4 = 0 then (0 : Int32) else 1))] [] h7)) else (zbI (zcf X m_M_lensOf [.ref 123, .int x1] h) fun v9 h8 => (zbV (zcf X m_M_nightBy [.ref 123, .int (-9)] h8) fun h12 => zrn X 6 m_M_first 45 [some (.ref 123), some (.int x1), some (.int x2), some (.int x3), some (.int (if (if v9 < 0 then (0 : Int32) else 1) = 0 then (-9 : Int32) else x5)), some (.int (x5 + 1)), some (.int (if v9 < 0 then (0 : Int32) else 1))] [] h12))))) := by
  refine (rn_ld d_M_first_45 rfl rfl rfl rfl).trans ?_
  refine (rn_push d_M_first_47 zcs_bipush_60).trans ?_
  refine (rn_ic_gt d_M_first_49 (t := 118) (by decide)).trans (zif ?_ ?_)
  · refine (rn_ld d_M_first_118 rfl rfl rfl rfl).trans ?_
    refine (rn_vV d_M_first_119 (zinv_v l_4_174 (by decide) (Nat.le_of_ble_eq_true rfl) rfl rfl zc_123 (Nat.le_of_ble_eq_true rfl)) (Nat.le_of_ble_eq_true rfl) rfl).trans (zbV_congr fun h1 => ?_)
    refine (rn_ld d_M_first_122 rfl rfl rfl rfl).trans ?_
    exact rn_ri d_M_first_124 rfl
  · refine (rn_ld d_M_first_52 rfl rfl rfl rfl).trans ?_
    refine (rn_if_ge d_M_first_54 (t := 118) (by decide)).trans (zif ?_ ?_)
    · refine (rn_ld d_M_first_118 rfl rfl rfl rfl).trans ?_
      refine (rn_vV d_M_first_119 (zinv_v l_4_174 (by decide) (Nat.le_of_ble_eq_true rfl) rfl rfl zc_123 (Nat.le_of_ble_eq_true rfl)) (Nat.le_of_ble_eq_true rfl) rfl).trans (zbV_congr fun h2 => ?_)
      refine (rn_ld d_M_first_122 rfl rfl rfl rfl).trans ?_
      exact rn_ri d_M_first_124 rfl
    · refine (rn_ld d_M_first_57 rfl rfl rfl rfl).trans ?_
      refine (rn_if_ne d_M_first_58 (t := 77) (by decide)).trans (zif ?_ ?_)
      · refine (rn_ld d_M_first_61 rfl rfl rfl rfl).trans ?_
        refine (rn_ld d_M_first_62 rfl rfl rfl rfl).trans ?_
        refine (rn_vI d_M_first_63 (zinv_v l_4_218 (by decide) (Nat.le_of_ble_eq_true rfl) rfl rfl zc_123 (Nat.le_of_ble_eq_true rfl)) (Nat.le_of_ble_eq_true rfl) (Or.inl rfl)).trans (zbI_congr fun v4 h3 => ?_)
        refine Eq.trans (b := zrn X 6 m_M_first 90 [some (.ref 123), some (.int x1), some (.int x2), some (.int x3), some (.int x4), some (.int x5), g6] [.int (if v4 = 0 then (0 : Int32) else 1)] h3) ?_ ?_
        · refine (rn_if_eq d_M_first_66 (t := 73) (by decide)).trans ?_
          by_cases q5 : v4 = 0
          · simp only [if_pos q5]
            refine (rn_push d_M_first_73 zcs_iconst_0).trans ?_
            refine (rn_goto d_M_first_74 (t := 90) (by decide)).trans ?_
            all_goals rfl
          · simp only [if_neg q5]
            refine (rn_push d_M_first_69 zcs_iconst_1).trans ?_
            refine (rn_goto d_M_first_70 (t := 90) (by decide)).trans ?_
            all_goals rfl
        refine (rn_st d_M_first_90 rfl rfl rfl (by decide) rfl (Nat.le_of_ble_eq_true rfl) (ls' := [some (.ref 123), some (.int x1), some (.int x2), some (.int x3), some (.int x4), some (.int x5), some (.int (if v4 = 0 then (0 : Int32) else 1))]) rfl).trans ?_
        refine (rn_ld d_M_first_92 rfl rfl rfl rfl).trans ?_
        refine Eq.trans (b := zrn X 6 m_M_first 104 [some (.ref 123), some (.int x1), some (.int x2), some (.int x3), some (.int x4), some (.int x5), some (.int (if v4 = 0 then (0 : Int32) else 1))] [.int (if (if v4 = 0 then (0 : Int32) else 1) = 0 then (-9 : Int32) else x5)] h3) ?_ ?_
        · refine (rn_if_eq d_M_first_94 (t := 102) (by decide)).trans ?_
          by_cases q6 : (if v4 = 0 then (0 : Int32) else 1) = 0
          · simp only [if_pos q6]
            refine (rn_push d_M_first_102 zcs_bipush_m9).trans ?_
            all_goals rfl
          · simp only [if_neg q6]
            refine (rn_ld d_M_first_97 rfl rfl rfl rfl).trans ?_
            refine (rn_goto d_M_first_99 (t := 104) (by decide)).trans ?_
            all_goals rfl
        refine (rn_st d_M_first_104 rfl rfl rfl (by decide) rfl (Nat.le_of_ble_eq_true rfl) (ls' := [some (.ref 123), some (.int x1), some (.int x2), some (.int x3), some (.int (if (if v4 = 0 then (0 : Int32) else 1) = 0 then (-9 : Int32) else x5)), some (.int x5), some (.int (if v4 = 0 then (0 : Int32) else 1))]) rfl).trans ?_
        refine (rn_ld d_M_first_106 rfl rfl rfl rfl).trans ?_
        refine (rn_push d_M_first_107 zcs_bipush_m9).trans ?_
        refine (rn_vV d_M_first_109 (zinv_v l_4_119 (by decide) (Nat.le_of_ble_eq_true rfl) rfl rfl zc_123 (Nat.le_of_ble_eq_true rfl)) (Nat.le_of_ble_eq_true rfl) rfl).trans (zbV_congr fun h7 => ?_)
        refine (rn_inc d_M_first_112 rfl (c := 1) (by decide) (ls' := [some (.ref 123), some (.int x1), some (.int x2), some (.int x3), some (.int (if (if v4 = 0 then (0 : Int32) else 1) = 0 then (-9 : Int32) else x5)), some (.int (x5 + 1)), some (.int (if v4 = 0 then (0 : Int32) else 1))]) rfl).trans ?_
        refine (rn_goto d_M_first_115 (t := 45) (by decide)).trans ?_
        rfl
      · refine (rn_ld d_M_first_77 rfl rfl rfl rfl).trans ?_
        refine (rn_ld d_M_first_78 rfl rfl rfl rfl).trans ?_
        refine (rn_vI d_M_first_79 (zinv_v l_4_113 (by decide) (Nat.le_of_ble_eq_true rfl) rfl rfl zc_123 (Nat.le_of_ble_eq_true rfl)) (Nat.le_of_ble_eq_true rfl) (Or.inl rfl)).trans (zbI_congr fun v9 h8 => ?_)
        refine Eq.trans (b := zrn X 6 m_M_first 90 [some (.ref 123), some (.int x1), some (.int x2), some (.int x3), some (.int x4), some (.int x5), g6] [.int (if v9 < 0 then (0 : Int32) else 1)] h8) ?_ ?_
        · refine (rn_if_lt d_M_first_82 (t := 89) (by decide)).trans ?_
          by_cases q10 : v9 < 0
          · simp only [if_pos q10]
            refine (rn_push d_M_first_89 zcs_iconst_0).trans ?_
            all_goals rfl
          · simp only [if_neg q10]
            refine (rn_push d_M_first_85 zcs_iconst_1).trans ?_
            refine (rn_goto d_M_first_86 (t := 90) (by decide)).trans ?_
            all_goals rfl
        refine (rn_st d_M_first_90 rfl rfl rfl (by decide) rfl (Nat.le_of_ble_eq_true rfl) (ls' := [some (.ref 123), some (.int x1), some (.int x2), some (.int x3), some (.int x4), some (.int x5), some (.int (if v9 < 0 then (0 : Int32) else 1))]) rfl).trans ?_
        refine (rn_ld d_M_first_92 rfl rfl rfl rfl).trans ?_
        refine Eq.trans (b := zrn X 6 m_M_first 104 [some (.ref 123), some (.int x1), some (.int x2), some (.int x3), some (.int x4), some (.int x5), some (.int (if v9 < 0 then (0 : Int32) else 1))] [.int (if (if v9 < 0 then (0 : Int32) else 1) = 0 then (-9 : Int32) else x5)] h8) ?_ ?_
        · refine (rn_if_eq d_M_first_94 (t := 102) (by decide)).trans ?_
          by_cases q11 : (if v9 < 0 then (0 : Int32) else 1) = 0
          · simp only [if_pos q11]
            refine (rn_push d_M_first_102 zcs_bipush_m9).trans ?_
            all_goals rfl
          · simp only [if_neg q11]
            refine (rn_ld d_M_first_97 rfl rfl rfl rfl).trans ?_
            refine (rn_goto d_M_first_99 (t := 104) (by decide)).trans ?_
            all_goals rfl
        refine (rn_st d_M_first_104 rfl rfl rfl (by decide) rfl (Nat.le_of_ble_eq_true rfl) (ls' := [some (.ref 123), some (.int x1), some (.int x2), some (.int x3), some (.int (if (if v9 < 0 then (0 : Int32) else 1) = 0 then (-9 : Int32) else x5)), some (.int x5), some (.int (if v9 < 0 then (0 : Int32) else 1))]) rfl).trans ?_
        refine (rn_ld d_M_first_106 rfl rfl rfl rfl).trans ?_
        refine (rn_push d_M_first_107 zcs_bipush_m9).trans ?_
        refine (rn_vV d_M_first_109 (zinv_v l_4_119 (by decide) (Nat.le_of_ble_eq_true rfl) rfl rfl zc_123 (Nat.le_of_ble_eq_true rfl)) (Nat.le_of_ble_eq_true rfl) rfl).trans (zbV_congr fun h12 => ?_)
        refine (rn_inc d_M_first_112 rfl (c := 1) (by decide) (ls' := [some (.ref 123), some (.int x1), some (.int x2), some (.int x3), some (.int (if (if v9 < 0 then (0 : Int32) else 1) = 0 then (-9 : Int32) else x5)), some (.int (x5 + 1)), some (.int (if v9 < 0 then (0 : Int32) else 1))]) rfl).trans ?_
        refine (rn_goto d_M_first_115 (t := 45) (by decide)).trans ?_
        rfl
theorem e_M_first {X : zX} {x1 : Int32} {x2 : Int32} {h : zH} : zcf X m_M_first [.ref 123, .int x1, .int x2] h = (zbI (zcf X m_M_isOne [.ref 123, .int x1] ((zup h.1 123 7 0), h.2)) fun v2 h1 => (zbI (zcf X m_M_wrongBit [.int (if v2 = 0 then (-1 : Int32) else 0), .int x2, .int 1] h1) fun v5 h4 => (if 0 ≤ v5 then (zbV (zcf X m_M_think [.ref 123] h4) fun h6 => zrn X 6 m_M_first 45 [some (.ref 123), some (.int x1), some (.int x2), some (.int v5), some (.int (-9)), some (.int 0), none] [] h6) else (zbI (zcf X m_M_refuse [.ref 123, .int v5] h4) fun v8 h7 => (some (some (.int v8), h7)))))) := by
  refine (zcf_run (Nat.le_of_ble_eq_true rfl)).trans ?_
  show zrn X 6 m_M_first 0 [some (.ref 123), some (.int x1), some (.int x2), none, none, none, none] [] h = _
  refine (rn_ld d_M_first_0 rfl rfl rfl rfl).trans ?_
  refine (rn_push d_M_first_1 zcs_iconst_0).trans ?_
  refine (rn_pi d_M_first_2 f_4_61 zc_123).trans ?_
  refine (rn_ld d_M_first_5 rfl rfl rfl rfl).trans ?_
  refine (rn_ld d_M_first_6 rfl rfl rfl rfl).trans ?_
  refine (rn_vI d_M_first_7 (zinv_v l_4_72 (by decide) (Nat.le_of_ble_eq_true rfl) rfl rfl zc_123 (Nat.le_of_ble_eq_true rfl)) (Nat.le_of_ble_eq_true rfl) (Or.inr rfl)).trans (zbI_congr fun v2 h1 => ?_)
  refine Eq.trans (b := zrn X 6 m_M_first 18 [some (.ref 123), some (.int x1), some (.int x2), none, none, none, none] [.int (if v2 = 0 then (-1 : Int32) else 0)] h1) ?_ ?_
  · refine (rn_if_eq d_M_first_10 (t := 17) (by decide)).trans ?_
    by_cases q3 : v2 = 0
    · simp only [if_pos q3]
      refine (rn_push d_M_first_17 zcs_iconst_m1).trans ?_
      all_goals rfl
    · simp only [if_neg q3]
      refine (rn_push d_M_first_13 zcs_iconst_0).trans ?_
      refine (rn_goto d_M_first_14 (t := 18) (by decide)).trans ?_
      all_goals rfl
  refine (rn_ld d_M_first_18 rfl rfl rfl rfl).trans ?_
  refine (rn_push d_M_first_19 zcs_iconst_1).trans ?_
  refine (rn_sI d_M_first_20 nb_4_215 (zinv_s l_4_215 (by decide) (Nat.le_of_ble_eq_true rfl) rfl rfl (Nat.le_of_ble_eq_true rfl)) (Nat.le_of_ble_eq_true rfl) (Or.inl rfl)).trans (zbI_congr fun v5 h4 => ?_)
  refine (rn_st d_M_first_23 rfl rfl rfl (by decide) rfl (Nat.le_of_ble_eq_true rfl) (ls' := [some (.ref 123), some (.int x1), some (.int x2), some (.int v5), none, none, none]) rfl).trans ?_
  refine (rn_ld d_M_first_24 rfl rfl rfl rfl).trans ?_
  refine (rn_if_ge d_M_first_25 (t := 34) (by decide)).trans (zif ?_ ?_)
  · refine (rn_push d_M_first_34 zcs_bipush_m9).trans ?_
    refine (rn_st d_M_first_36 rfl rfl rfl (by decide) rfl (Nat.le_of_ble_eq_true rfl) (ls' := [some (.ref 123), some (.int x1), some (.int x2), some (.int v5), some (.int (-9)), none, none]) rfl).trans ?_
    refine (rn_ld d_M_first_38 rfl rfl rfl rfl).trans ?_
    refine (rn_vV d_M_first_39 (zinv_v l_4_168 (by decide) (Nat.le_of_ble_eq_true rfl) rfl rfl zc_123 (Nat.le_of_ble_eq_true rfl)) (Nat.le_of_ble_eq_true rfl) rfl).trans (zbV_congr fun h6 => ?_)
    refine (rn_push d_M_first_42 zcs_iconst_0).trans ?_
    refine (rn_st d_M_first_43 rfl rfl rfl (by decide) rfl (Nat.le_of_ble_eq_true rfl) (ls' := [some (.ref 123), some (.int x1), some (.int x2), some (.int v5), some (.int (-9)), some (.int 0), none]) rfl).trans ?_
    rfl
  · refine (rn_ld d_M_first_28 rfl rfl rfl rfl).trans ?_
    refine (rn_ld d_M_first_29 rfl rfl rfl rfl).trans ?_
    refine (rn_vI d_M_first_30 (zinv_v l_4_123 (by decide) (Nat.le_of_ble_eq_true rfl) rfl rfl zc_123 (Nat.le_of_ble_eq_true rfl)) (Nat.le_of_ble_eq_true rfl) (Or.inl rfl)).trans (zbI_congr fun v8 h7 => ?_)
    exact rn_ri d_M_first_33 rfl
theorem b_M_still_14 {X : zX} {x1 : Int32} {x2 : Int32} {g3 : Option Value} {g4 : Option Value} {h : zH} : zrn X 6 m_M_still 14 [some (.ref 123), some (.int x1), some (.int x2), g3, g4] [] h = (if 60 < x2 then (zbV (zcf X m_M_again [.ref 123] h) fun h1 => (some (some (.int x1), h1))) else (if 0 ≤ x1 then (zbV (zcf X m_M_again [.ref 123] h) fun h2 => (some (some (.int x1), h2))) else zrn X 6 m_M_still 26 [some (.ref 123), some (.int x1), some (.int x2), some (.int 0), g4] [] h)) := by
  refine (rn_ld d_M_still_14 rfl rfl rfl rfl).trans ?_
  refine (rn_push d_M_still_15 zcs_bipush_60).trans ?_
  refine (rn_ic_gt d_M_still_17 (t := 141) (by decide)).trans (zif ?_ ?_)
  · refine (rn_ld d_M_still_141 rfl rfl rfl rfl).trans ?_
    refine (rn_vV d_M_still_142 (zinv_v l_4_174 (by decide) (Nat.le_of_ble_eq_true rfl) rfl rfl zc_123 (Nat.le_of_ble_eq_true rfl)) (Nat.le_of_ble_eq_true rfl) rfl).trans (zbV_congr fun h1 => ?_)
    refine (rn_ld d_M_still_145 rfl rfl rfl rfl).trans ?_
    exact rn_ri d_M_still_146 rfl
  · refine (rn_ld d_M_still_20 rfl rfl rfl rfl).trans ?_
    refine (rn_if_ge d_M_still_21 (t := 141) (by decide)).trans (zif ?_ ?_)
    · refine (rn_ld d_M_still_141 rfl rfl rfl rfl).trans ?_
      refine (rn_vV d_M_still_142 (zinv_v l_4_174 (by decide) (Nat.le_of_ble_eq_true rfl) rfl rfl zc_123 (Nat.le_of_ble_eq_true rfl)) (Nat.le_of_ble_eq_true rfl) rfl).trans (zbV_congr fun h2 => ?_)
      refine (rn_ld d_M_still_145 rfl rfl rfl rfl).trans ?_
      exact rn_ri d_M_still_146 rfl
    · refine (rn_push d_M_still_24 zcs_iconst_0).trans ?_
      refine (rn_st d_M_still_25 rfl rfl rfl (by decide) rfl (Nat.le_of_ble_eq_true rfl) (ls' := [some (.ref 123), some (.int x1), some (.int x2), some (.int 0), g4]) rfl).trans ?_
      rfl
theorem b_M_still_26 {X : zX} {x1 : Int32} {x2 : Int32} {x3 : Int32} {g4 : Option Value} {h : zH} : zrn X 6 m_M_still 26 [some (.ref 123), some (.int x1), some (.int x2), some (.int x3), g4] [] h = (if (h.1 123 0) ≤ x3 then (zbV (zcf X m_M_nightBy [.ref 123, .int (-9)] h) fun h1 => zrn X 6 m_M_still 72 [some (.ref 123), some (.int x1), some (.int x2), some (.int 1), some (.int 0)] [] h1) else (if zin x3 7 = true then (if zin x3 7 = true then (if zin x3 7 = true then zrn X 6 m_M_still 26 [some (.ref 123), some (.int x1), some (.int x2), some (.int (x3 + 1)), g4] [] ((zup h.1 138 (Int32.toNatClampNeg x3) ((4 * (h.1 126 (Int32.toNatClampNeg x3))) + (h.1 127 (Int32.toNatClampNeg x3)))), h.2) else none) else none) else none)) := by
  refine (rn_ld d_M_still_26 rfl rfl rfl rfl).trans ?_
  refine (rn_ld d_M_still_27 rfl rfl rfl rfl).trans ?_
  refine (rn_gi d_M_still_28 f_4_65 zc_123).trans ?_
  refine (rn_ic_ge d_M_still_31 (t := 61) (by decide)).trans (zif ?_ ?_)
  · refine (rn_ld d_M_still_61 rfl rfl rfl rfl).trans ?_
    refine (rn_push d_M_still_62 zcs_bipush_m9).trans ?_
    refine (rn_vV d_M_still_64 (zinv_v l_4_119 (by decide) (Nat.le_of_ble_eq_true rfl) rfl rfl zc_123 (Nat.le_of_ble_eq_true rfl)) (Nat.le_of_ble_eq_true rfl) rfl).trans (zbV_congr fun h1 => ?_)
    refine (rn_push d_M_still_67 zcs_iconst_1).trans ?_
    refine (rn_st d_M_still_68 rfl rfl rfl (by decide) rfl (Nat.le_of_ble_eq_true rfl) (ls' := [some (.ref 123), some (.int x1), some (.int x2), some (.int 1), g4]) rfl).trans ?_
    refine (rn_push d_M_still_69 zcs_iconst_0).trans ?_
    refine (rn_st d_M_still_70 rfl rfl rfl (by decide) rfl (Nat.le_of_ble_eq_true rfl) (ls' := [some (.ref 123), some (.int x1), some (.int x2), some (.int 1), some (.int 0)]) rfl).trans ?_
    rfl
  · refine (rn_ld d_M_still_34 rfl rfl rfl rfl).trans ?_
    refine (rn_gr d_M_still_35 f_4_52 zc_123 zr_123_28).trans ?_
    refine (rn_ld d_M_still_38 rfl rfl rfl rfl).trans ?_
    refine (rn_push d_M_still_39 zcs_iconst_4).trans ?_
    refine (rn_ld d_M_still_40 rfl rfl rfl rfl).trans ?_
    refine (rn_gr d_M_still_41 f_4_16 zc_123 zr_123_3).trans ?_
    refine (rn_ld d_M_still_44 rfl rfl rfl rfl).trans ?_
    refine (rn_ial d_M_still_45 (by decide) zc_126).trans (zif ?_ rfl)
    refine (rn_a2 d_M_still_46 rfl).trans ?_
    refine (rn_ld d_M_still_47 rfl rfl rfl rfl).trans ?_
    refine (rn_gr d_M_still_48 f_4_19 zc_123 zr_123_4).trans ?_
    refine (rn_ld d_M_still_51 rfl rfl rfl rfl).trans ?_
    refine (rn_ial d_M_still_52 (by decide) zc_127).trans (zif ?_ rfl)
    refine (rn_a2 d_M_still_53 rfl).trans ?_
    refine (rn_ias d_M_still_54 zc_138).trans (zif ?_ rfl)
    refine (rn_inc d_M_still_55 rfl (c := 1) (by decide) (ls' := [some (.ref 123), some (.int x1), some (.int x2), some (.int (x3 + 1)), g4]) rfl).trans ?_
    refine (rn_goto d_M_still_58 (t := 26) (by decide)).trans ?_
    rfl
theorem b_M_still_72 {X : zX} {x1 : Int32} {x2 : Int32} {x3 : Int32} {x4 : Int32} {h : zH} : zrn X 6 m_M_still 72 [some (.ref 123), some (.int x1), some (.int x2), some (.int x3), some (.int x4)] [] h = (if (h.1 123 0) ≤ x4 then zrn X 6 m_M_still 14 [some (.ref 123), some (.int (if x3 = 0 then (-9 : Int32) else x2)), some (.int (x2 + 1)), some (.int x3), some (.int x4)] [] h else (if x3 = 0 then zrn X 6 m_M_still 72 [some (.ref 123), some (.int x1), some (.int x2), some (.int 0), some (.int (x4 + 1))] [] h else (if zin x4 7 = true then (if zin x4 7 = true then (if zin x4 7 = true then zrn X 6 m_M_still 72 [some (.ref 123), some (.int x1), some (.int x2), some (.int (if (h.1 138 (Int32.toNatClampNeg x4)) = ((4 * (h.1 126 (Int32.toNatClampNeg x4))) + (h.1 127 (Int32.toNatClampNeg x4))) then (1 : Int32) else 0)), some (.int (x4 + 1))] [] h else none) else none) else none))) := by
  refine (rn_ld d_M_still_72 rfl rfl rfl rfl).trans ?_
  refine (rn_ld d_M_still_74 rfl rfl rfl rfl).trans ?_
  refine (rn_gi d_M_still_75 f_4_65 zc_123).trans ?_
  refine (rn_ic_ge d_M_still_78 (t := 124) (by decide)).trans (zif ?_ ?_)
  · refine (rn_ld d_M_still_124 rfl rfl rfl rfl).trans ?_
    refine Eq.trans (b := zrn X 6 m_M_still 134 [some (.ref 123), some (.int x1), some (.int x2), some (.int x3), some (.int x4)] [.int (if x3 = 0 then (-9 : Int32) else x2)] h) ?_ ?_
    · refine (rn_if_eq d_M_still_125 (t := 132) (by decide)).trans ?_
      by_cases q1 : x3 = 0
      · simp only [if_pos q1]
        refine (rn_push d_M_still_132 zcs_bipush_m9).trans ?_
        all_goals rfl
      · simp only [if_neg q1]
        refine (rn_ld d_M_still_128 rfl rfl rfl rfl).trans ?_
        refine (rn_goto d_M_still_129 (t := 134) (by decide)).trans ?_
        all_goals rfl
    refine (rn_st d_M_still_134 rfl rfl rfl (by decide) rfl (Nat.le_of_ble_eq_true rfl) (ls' := [some (.ref 123), some (.int (if x3 = 0 then (-9 : Int32) else x2)), some (.int x2), some (.int x3), some (.int x4)]) rfl).trans ?_
    refine (rn_inc d_M_still_135 rfl (c := 1) (by decide) (ls' := [some (.ref 123), some (.int (if x3 = 0 then (-9 : Int32) else x2)), some (.int (x2 + 1)), some (.int x3), some (.int x4)]) rfl).trans ?_
    refine (rn_goto d_M_still_138 (t := 14) (by decide)).trans ?_
    rfl
  · refine (rn_ld d_M_still_81 rfl rfl rfl rfl).trans ?_
    refine (rn_if_eq d_M_still_82 (t := 116) (by decide)).trans (zif ?_ ?_)
    · refine (rn_push d_M_still_116 zcs_iconst_0).trans ?_
      refine (rn_st d_M_still_117 rfl rfl rfl (by decide) rfl (Nat.le_of_ble_eq_true rfl) (ls' := [some (.ref 123), some (.int x1), some (.int x2), some (.int 0), some (.int x4)]) rfl).trans ?_
      refine (rn_inc d_M_still_118 rfl (c := 1) (by decide) (ls' := [some (.ref 123), some (.int x1), some (.int x2), some (.int 0), some (.int (x4 + 1))]) rfl).trans ?_
      refine (rn_goto d_M_still_121 (t := 72) (by decide)).trans ?_
      rfl
    · refine (rn_ld d_M_still_85 rfl rfl rfl rfl).trans ?_
      refine (rn_gr d_M_still_86 f_4_52 zc_123 zr_123_28).trans ?_
      refine (rn_ld d_M_still_89 rfl rfl rfl rfl).trans ?_
      refine (rn_ial d_M_still_91 (by decide) zc_138).trans (zif ?_ rfl)
      refine (rn_push d_M_still_92 zcs_iconst_4).trans ?_
      refine (rn_ld d_M_still_93 rfl rfl rfl rfl).trans ?_
      refine (rn_gr d_M_still_94 f_4_16 zc_123 zr_123_3).trans ?_
      refine (rn_ld d_M_still_97 rfl rfl rfl rfl).trans ?_
      refine (rn_ial d_M_still_99 (by decide) zc_126).trans (zif ?_ rfl)
      refine (rn_a2 d_M_still_100 rfl).trans ?_
      refine (rn_ld d_M_still_101 rfl rfl rfl rfl).trans ?_
      refine (rn_gr d_M_still_102 f_4_19 zc_123 zr_123_4).trans ?_
      refine (rn_ld d_M_still_105 rfl rfl rfl rfl).trans ?_
      refine (rn_ial d_M_still_107 (by decide) zc_127).trans (zif ?_ rfl)
      refine (rn_a2 d_M_still_108 rfl).trans ?_
      refine Eq.trans (b := zrn X 6 m_M_still 117 [some (.ref 123), some (.int x1), some (.int x2), some (.int x3), some (.int x4)] [.int (if (h.1 138 (Int32.toNatClampNeg x4)) = ((4 * (h.1 126 (Int32.toNatClampNeg x4))) + (h.1 127 (Int32.toNatClampNeg x4))) then (1 : Int32) else 0)] h) ?_ ?_
      · refine (rn_ic_ne d_M_still_109 (t := 116) (by decide)).trans ?_
        by_cases q2 : (h.1 138 (Int32.toNatClampNeg x4)) = ((4 * (h.1 126 (Int32.toNatClampNeg x4))) + (h.1 127 (Int32.toNatClampNeg x4)))
        · simp only [if_pos q2]
          refine (rn_push d_M_still_112 zcs_iconst_1).trans ?_
          refine (rn_goto d_M_still_113 (t := 117) (by decide)).trans ?_
          all_goals rfl
        · simp only [if_neg q2]
          refine (rn_push d_M_still_116 zcs_iconst_0).trans ?_
          all_goals rfl
      refine (rn_st d_M_still_117 rfl rfl rfl (by decide) rfl (Nat.le_of_ble_eq_true rfl) (ls' := [some (.ref 123), some (.int x1), some (.int x2), some (.int (if (h.1 138 (Int32.toNatClampNeg x4)) = ((4 * (h.1 126 (Int32.toNatClampNeg x4))) + (h.1 127 (Int32.toNatClampNeg x4))) then (1 : Int32) else 0)), some (.int x4)]) rfl).trans ?_
      refine (rn_inc d_M_still_118 rfl (c := 1) (by decide) (ls' := [some (.ref 123), some (.int x1), some (.int x2), some (.int (if (h.1 138 (Int32.toNatClampNeg x4)) = ((4 * (h.1 126 (Int32.toNatClampNeg x4))) + (h.1 127 (Int32.toNatClampNeg x4))) then (1 : Int32) else 0)), some (.int (x4 + 1))]) rfl).trans ?_
      refine (rn_goto d_M_still_121 (t := 72) (by decide)).trans ?_
      rfl
theorem e_M_still {X : zX} {h : zH} : zcf X m_M_still [.ref 123] h = (zbV (zcf X m_M_think [.ref 123] ((zup h.1 123 7 0), h.2)) fun h1 => zrn X 6 m_M_still 14 [some (.ref 123), some (.int (-9)), some (.int 0), none, none] [] h1) := by
  refine (zcf_run (Nat.le_of_ble_eq_true rfl)).trans ?_
  show zrn X 6 m_M_still 0 [some (.ref 123), none, none, none, none] [] h = _
  refine (rn_ld d_M_still_0 rfl rfl rfl rfl).trans ?_
  refine (rn_push d_M_still_1 zcs_iconst_0).trans ?_
  refine (rn_pi d_M_still_2 f_4_61 zc_123).trans ?_
  refine (rn_push d_M_still_5 zcs_bipush_m9).trans ?_
  refine (rn_st d_M_still_7 rfl rfl rfl (by decide) rfl (Nat.le_of_ble_eq_true rfl) (ls' := [some (.ref 123), some (.int (-9)), none, none, none]) rfl).trans ?_
  refine (rn_ld d_M_still_8 rfl rfl rfl rfl).trans ?_
  refine (rn_vV d_M_still_9 (zinv_v l_4_168 (by decide) (Nat.le_of_ble_eq_true rfl) rfl rfl zc_123 (Nat.le_of_ble_eq_true rfl)) (Nat.le_of_ble_eq_true rfl) rfl).trans (zbV_congr fun h1 => ?_)
  refine (rn_push d_M_still_12 zcs_iconst_0).trans ?_
  refine (rn_st d_M_still_13 rfl rfl rfl (by decide) rfl (Nat.le_of_ble_eq_true rfl) (ls' := [some (.ref 123), some (.int (-9)), some (.int 0), none, none]) rfl).trans ?_
  rfl
theorem b_M_unseen_16 {X : zX} {x1 : Int32} {x2 : Int32} {h : zH} : zrn X 4 m_M_unseen 16 [some (.ref 123), some (.int x1), some (.int x2)] [] h = (if (h.1 123 0) ≤ x2 then (some (some (.int x1), h)) else (zbI (zcf X m_M_aheadOf [.ref 123, .int x2] h) fun v2 h1 => (if 0 ≤ v2 then (zbI (zcf X m_M_aheadOf [.ref 123, .int x2] h1) fun v4 h3 => (zbI (zcf X m_M_lensOf [.ref 123, .int x2] h3) fun v6 h5 => (if 0 ≤ v6 then (zbI (zcf X m_M_lensOf [.ref 123, .int x2] h5) fun v8 h7 => zrn X 4 m_M_unseen 16 [some (.ref 123), some (.int ((x1 &&& (((1 : Int32) <<< (v4 &&& 31)) ^^^ (-1))) &&& (((1 : Int32) <<< (v8 &&& 31)) ^^^ (-1)))), some (.int (x2 + 1))] [] h7) else zrn X 4 m_M_unseen 16 [some (.ref 123), some (.int ((x1 &&& (((1 : Int32) <<< (v4 &&& 31)) ^^^ (-1))) &&& (x1 &&& (((1 : Int32) <<< (v4 &&& 31)) ^^^ (-1))))), some (.int (x2 + 1))] [] h5))) else (zbI (zcf X m_M_lensOf [.ref 123, .int x2] h1) fun v10 h9 => (if 0 ≤ v10 then (zbI (zcf X m_M_lensOf [.ref 123, .int x2] h9) fun v12 h11 => zrn X 4 m_M_unseen 16 [some (.ref 123), some (.int ((x1 &&& x1) &&& (((1 : Int32) <<< (v12 &&& 31)) ^^^ (-1)))), some (.int (x2 + 1))] [] h11) else zrn X 4 m_M_unseen 16 [some (.ref 123), some (.int ((x1 &&& x1) &&& (x1 &&& x1))), some (.int (x2 + 1))] [] h9))))) := by
  refine (rn_ld d_M_unseen_16 rfl rfl rfl rfl).trans ?_
  refine (rn_ld d_M_unseen_17 rfl rfl rfl rfl).trans ?_
  refine (rn_gi d_M_unseen_18 f_4_65 zc_123).trans ?_
  refine (rn_ic_ge d_M_unseen_21 (t := 78) (by decide)).trans (zif ?_ ?_)
  · refine (rn_ld d_M_unseen_78 rfl rfl rfl rfl).trans ?_
    exact rn_ri d_M_unseen_79 rfl
  · refine (rn_ld d_M_unseen_24 rfl rfl rfl rfl).trans ?_
    refine (rn_ld d_M_unseen_25 rfl rfl rfl rfl).trans ?_
    refine (rn_ld d_M_unseen_26 rfl rfl rfl rfl).trans ?_
    refine (rn_vI d_M_unseen_27 (zinv_v l_4_97 (by decide) (Nat.le_of_ble_eq_true rfl) rfl rfl zc_123 (Nat.le_of_ble_eq_true rfl)) (Nat.le_of_ble_eq_true rfl) (Or.inl rfl)).trans (zbI_congr fun v2 h1 => ?_)
    refine (rn_if_ge d_M_unseen_30 (t := 37) (by decide)).trans (zif ?_ ?_)
    · refine (rn_push d_M_unseen_37 zcs_iconst_1).trans ?_
      refine (rn_ld d_M_unseen_38 rfl rfl rfl rfl).trans ?_
      refine (rn_ld d_M_unseen_39 rfl rfl rfl rfl).trans ?_
      refine (rn_vI d_M_unseen_40 (zinv_v l_4_97 (by decide) (Nat.le_of_ble_eq_true rfl) rfl rfl zc_123 (Nat.le_of_ble_eq_true rfl)) (Nat.le_of_ble_eq_true rfl) (Or.inl rfl)).trans (zbI_congr fun v4 h3 => ?_)
      refine (rn_a2 d_M_unseen_43 rfl).trans ?_
      refine (rn_push d_M_unseen_44 zcs_iconst_m1).trans ?_
      refine (rn_a2 d_M_unseen_45 rfl).trans ?_
      refine (rn_a2 d_M_unseen_46 rfl).trans ?_
      refine (rn_st d_M_unseen_47 rfl rfl rfl (by decide) rfl (Nat.le_of_ble_eq_true rfl) (ls' := [some (.ref 123), some (.int (x1 &&& (((1 : Int32) <<< (v4 &&& 31)) ^^^ (-1)))), some (.int x2)]) rfl).trans ?_
      refine (rn_ld d_M_unseen_48 rfl rfl rfl rfl).trans ?_
      refine (rn_ld d_M_unseen_49 rfl rfl rfl rfl).trans ?_
      refine (rn_ld d_M_unseen_50 rfl rfl rfl rfl).trans ?_
      refine (rn_vI d_M_unseen_51 (zinv_v l_4_113 (by decide) (Nat.le_of_ble_eq_true rfl) rfl rfl zc_123 (Nat.le_of_ble_eq_true rfl)) (Nat.le_of_ble_eq_true rfl) (Or.inl rfl)).trans (zbI_congr fun v6 h5 => ?_)
      refine (rn_if_ge d_M_unseen_54 (t := 61) (by decide)).trans (zif ?_ ?_)
      · refine (rn_push d_M_unseen_61 zcs_iconst_1).trans ?_
        refine (rn_ld d_M_unseen_62 rfl rfl rfl rfl).trans ?_
        refine (rn_ld d_M_unseen_63 rfl rfl rfl rfl).trans ?_
        refine (rn_vI d_M_unseen_64 (zinv_v l_4_113 (by decide) (Nat.le_of_ble_eq_true rfl) rfl rfl zc_123 (Nat.le_of_ble_eq_true rfl)) (Nat.le_of_ble_eq_true rfl) (Or.inl rfl)).trans (zbI_congr fun v8 h7 => ?_)
        refine (rn_a2 d_M_unseen_67 rfl).trans ?_
        refine (rn_push d_M_unseen_68 zcs_iconst_m1).trans ?_
        refine (rn_a2 d_M_unseen_69 rfl).trans ?_
        refine (rn_a2 d_M_unseen_70 rfl).trans ?_
        refine (rn_st d_M_unseen_71 rfl rfl rfl (by decide) rfl (Nat.le_of_ble_eq_true rfl) (ls' := [some (.ref 123), some (.int ((x1 &&& (((1 : Int32) <<< (v4 &&& 31)) ^^^ (-1))) &&& (((1 : Int32) <<< (v8 &&& 31)) ^^^ (-1)))), some (.int x2)]) rfl).trans ?_
        refine (rn_inc d_M_unseen_72 rfl (c := 1) (by decide) (ls' := [some (.ref 123), some (.int ((x1 &&& (((1 : Int32) <<< (v4 &&& 31)) ^^^ (-1))) &&& (((1 : Int32) <<< (v8 &&& 31)) ^^^ (-1)))), some (.int (x2 + 1))]) rfl).trans ?_
        refine (rn_goto d_M_unseen_75 (t := 16) (by decide)).trans ?_
        rfl
      · refine (rn_ld d_M_unseen_57 rfl rfl rfl rfl).trans ?_
        refine (rn_goto d_M_unseen_58 (t := 70) (by decide)).trans ?_
        refine (rn_a2 d_M_unseen_70 rfl).trans ?_
        refine (rn_st d_M_unseen_71 rfl rfl rfl (by decide) rfl (Nat.le_of_ble_eq_true rfl) (ls' := [some (.ref 123), some (.int ((x1 &&& (((1 : Int32) <<< (v4 &&& 31)) ^^^ (-1))) &&& (x1 &&& (((1 : Int32) <<< (v4 &&& 31)) ^^^ (-1))))), some (.int x2)]) rfl).trans ?_
        refine (rn_inc d_M_unseen_72 rfl (c := 1) (by decide) (ls' := [some (.ref 123), some (.int ((x1 &&& (((1 : Int32) <<< (v4 &&& 31)) ^^^ (-1))) &&& (x1 &&& (((1 : Int32) <<< (v4 &&& 31)) ^^^ (-1))))), some (.int (x2 + 1))]) rfl).trans ?_
        refine (rn_goto d_M_unseen_75 (t := 16) (by decide)).trans ?_
        rfl
    · refine (rn_ld d_M_unseen_33 rfl rfl rfl rfl).trans ?_
      refine (rn_goto d_M_unseen_34 (t := 46) (by decide)).trans ?_
      refine (rn_a2 d_M_unseen_46 rfl).trans ?_
      refine (rn_st d_M_unseen_47 rfl rfl rfl (by decide) rfl (Nat.le_of_ble_eq_true rfl) (ls' := [some (.ref 123), some (.int (x1 &&& x1)), some (.int x2)]) rfl).trans ?_
      refine (rn_ld d_M_unseen_48 rfl rfl rfl rfl).trans ?_
      refine (rn_ld d_M_unseen_49 rfl rfl rfl rfl).trans ?_
      refine (rn_ld d_M_unseen_50 rfl rfl rfl rfl).trans ?_
      refine (rn_vI d_M_unseen_51 (zinv_v l_4_113 (by decide) (Nat.le_of_ble_eq_true rfl) rfl rfl zc_123 (Nat.le_of_ble_eq_true rfl)) (Nat.le_of_ble_eq_true rfl) (Or.inl rfl)).trans (zbI_congr fun v10 h9 => ?_)
      refine (rn_if_ge d_M_unseen_54 (t := 61) (by decide)).trans (zif ?_ ?_)
      · refine (rn_push d_M_unseen_61 zcs_iconst_1).trans ?_
        refine (rn_ld d_M_unseen_62 rfl rfl rfl rfl).trans ?_
        refine (rn_ld d_M_unseen_63 rfl rfl rfl rfl).trans ?_
        refine (rn_vI d_M_unseen_64 (zinv_v l_4_113 (by decide) (Nat.le_of_ble_eq_true rfl) rfl rfl zc_123 (Nat.le_of_ble_eq_true rfl)) (Nat.le_of_ble_eq_true rfl) (Or.inl rfl)).trans (zbI_congr fun v12 h11 => ?_)
        refine (rn_a2 d_M_unseen_67 rfl).trans ?_
        refine (rn_push d_M_unseen_68 zcs_iconst_m1).trans ?_
        refine (rn_a2 d_M_unseen_69 rfl).trans ?_
        refine (rn_a2 d_M_unseen_70 rfl).trans ?_
        refine (rn_st d_M_unseen_71 rfl rfl rfl (by decide) rfl (Nat.le_of_ble_eq_true rfl) (ls' := [some (.ref 123), some (.int ((x1 &&& x1) &&& (((1 : Int32) <<< (v12 &&& 31)) ^^^ (-1)))), some (.int x2)]) rfl).trans ?_
        refine (rn_inc d_M_unseen_72 rfl (c := 1) (by decide) (ls' := [some (.ref 123), some (.int ((x1 &&& x1) &&& (((1 : Int32) <<< (v12 &&& 31)) ^^^ (-1)))), some (.int (x2 + 1))]) rfl).trans ?_
        refine (rn_goto d_M_unseen_75 (t := 16) (by decide)).trans ?_
        rfl
      · refine (rn_ld d_M_unseen_57 rfl rfl rfl rfl).trans ?_
        refine (rn_goto d_M_unseen_58 (t := 70) (by decide)).trans ?_
        refine (rn_a2 d_M_unseen_70 rfl).trans ?_
        refine (rn_st d_M_unseen_71 rfl rfl rfl (by decide) rfl (Nat.le_of_ble_eq_true rfl) (ls' := [some (.ref 123), some (.int ((x1 &&& x1) &&& (x1 &&& x1))), some (.int x2)]) rfl).trans ?_
        refine (rn_inc d_M_unseen_72 rfl (c := 1) (by decide) (ls' := [some (.ref 123), some (.int ((x1 &&& x1) &&& (x1 &&& x1))), some (.int (x2 + 1))]) rfl).trans ?_
        refine (rn_goto d_M_unseen_75 (t := 16) (by decide)).trans ?_
        rfl
theorem e_M_unseen {X : zX} {h : zH} : zcf X m_M_unseen [.ref 123] h = zrn X 4 m_M_unseen 16 [some (.ref 123), some (.int (((1 : Int32) <<< (((zup h.1 123 7 0) 123 0) &&& 31)) - 1)), some (.int 0)] [] ((zup h.1 123 7 0), h.2) := by
  refine (zcf_run (Nat.le_of_ble_eq_true rfl)).trans ?_
  show zrn X 4 m_M_unseen 0 [some (.ref 123), none, none] [] h = _
  refine (rn_ld d_M_unseen_0 rfl rfl rfl rfl).trans ?_
  refine (rn_push d_M_unseen_1 zcs_iconst_0).trans ?_
  refine (rn_pi d_M_unseen_2 f_4_61 zc_123).trans ?_
  refine (rn_push d_M_unseen_5 zcs_iconst_1).trans ?_
  refine (rn_ld d_M_unseen_6 rfl rfl rfl rfl).trans ?_
  refine (rn_gi d_M_unseen_7 f_4_65 zc_123).trans ?_
  refine (rn_a2 d_M_unseen_10 rfl).trans ?_
  refine (rn_push d_M_unseen_11 zcs_iconst_1).trans ?_
  refine (rn_a2 d_M_unseen_12 rfl).trans ?_
  refine (rn_st d_M_unseen_13 rfl rfl rfl (by decide) rfl (Nat.le_of_ble_eq_true rfl) (ls' := [some (.ref 123), some (.int (((1 : Int32) <<< (((zup h.1 123 7 0) 123 0) &&& 31)) - 1)), none]) rfl).trans ?_
  refine (rn_push d_M_unseen_14 zcs_iconst_0).trans ?_
  refine (rn_st d_M_unseen_15 rfl rfl rfl (by decide) rfl (Nat.le_of_ble_eq_true rfl) (ls' := [some (.ref 123), some (.int (((1 : Int32) <<< (((zup h.1 123 7 0) 123 0) &&& 31)) - 1)), some (.int 0)]) rfl).trans ?_
  rfl
theorem e_M_chain {X : zX} {x1 : Int32} {x2 : Int32} {h : zH} : zcf X m_M_chain [.ref 123, .int x1, .int x2] h = (zbI (zcf X m_M_isOne [.ref 123, .int x1] ((zup h.1 123 7 0), h.2)) fun v2 h1 => (zbI (zcf X m_M_wrongBit [.int (if v2 = 0 then (-1 : Int32) else 0), .int x2, .int 2] h1) fun v5 h4 => (if 0 ≤ v5 then (zbI (zcf X m_M_chainFrom [.ref 123, .int x1] h4) fun v7 h6 => (if x2 = 0 then (some (some (.int v7), h6)) else (if x2 = 1 then (some (some (.int (h6.1 123 29)), h6)) else (some (some (.int (h6.1 123 30)), h6))))) else (zbI (zcf X m_M_refuse [.ref 123, .int v5] h4) fun v9 h8 => (some (some (.int v9), h8)))))) := by
  refine (zcf_run (Nat.le_of_ble_eq_true rfl)).trans ?_
  show zrn X 5 m_M_chain 0 [some (.ref 123), some (.int x1), some (.int x2), none, none] [] h = _
  refine (rn_ld d_M_chain_0 rfl rfl rfl rfl).trans ?_
  refine (rn_push d_M_chain_1 zcs_iconst_0).trans ?_
  refine (rn_pi d_M_chain_2 f_4_61 zc_123).trans ?_
  refine (rn_ld d_M_chain_5 rfl rfl rfl rfl).trans ?_
  refine (rn_ld d_M_chain_6 rfl rfl rfl rfl).trans ?_
  refine (rn_vI d_M_chain_7 (zinv_v l_4_72 (by decide) (Nat.le_of_ble_eq_true rfl) rfl rfl zc_123 (Nat.le_of_ble_eq_true rfl)) (Nat.le_of_ble_eq_true rfl) (Or.inr rfl)).trans (zbI_congr fun v2 h1 => ?_)
  refine Eq.trans (b := zrn X 5 m_M_chain 18 [some (.ref 123), some (.int x1), some (.int x2), none, none] [.int (if v2 = 0 then (-1 : Int32) else 0)] h1) ?_ ?_
  · refine (rn_if_eq d_M_chain_10 (t := 17) (by decide)).trans ?_
    by_cases q3 : v2 = 0
    · simp only [if_pos q3]
      refine (rn_push d_M_chain_17 zcs_iconst_m1).trans ?_
      all_goals rfl
    · simp only [if_neg q3]
      refine (rn_push d_M_chain_13 zcs_iconst_0).trans ?_
      refine (rn_goto d_M_chain_14 (t := 18) (by decide)).trans ?_
      all_goals rfl
  refine (rn_ld d_M_chain_18 rfl rfl rfl rfl).trans ?_
  refine (rn_push d_M_chain_19 zcs_iconst_2).trans ?_
  refine (rn_sI d_M_chain_20 nb_4_215 (zinv_s l_4_215 (by decide) (Nat.le_of_ble_eq_true rfl) rfl rfl (Nat.le_of_ble_eq_true rfl)) (Nat.le_of_ble_eq_true rfl) (Or.inl rfl)).trans (zbI_congr fun v5 h4 => ?_)
  refine (rn_st d_M_chain_23 rfl rfl rfl (by decide) rfl (Nat.le_of_ble_eq_true rfl) (ls' := [some (.ref 123), some (.int x1), some (.int x2), some (.int v5), none]) rfl).trans ?_
  refine (rn_ld d_M_chain_24 rfl rfl rfl rfl).trans ?_
  refine (rn_if_ge d_M_chain_25 (t := 34) (by decide)).trans (zif ?_ ?_)
  · refine (rn_ld d_M_chain_34 rfl rfl rfl rfl).trans ?_
    refine (rn_ld d_M_chain_35 rfl rfl rfl rfl).trans ?_
    refine (rn_vI d_M_chain_36 (zinv_v l_4_234 (by decide) (Nat.le_of_ble_eq_true rfl) rfl rfl zc_123 (Nat.le_of_ble_eq_true rfl)) (Nat.le_of_ble_eq_true rfl) (Or.inl rfl)).trans (zbI_congr fun v7 h6 => ?_)
    refine (rn_st d_M_chain_39 rfl rfl rfl (by decide) rfl (Nat.le_of_ble_eq_true rfl) (ls' := [some (.ref 123), some (.int x1), some (.int x2), some (.int v5), some (.int v7)]) rfl).trans ?_
    refine (rn_ld d_M_chain_41 rfl rfl rfl rfl).trans ?_
    refine (rn_if_ne d_M_chain_42 (t := 50) (by decide)).trans (zif ?_ ?_)
    · refine (rn_ld d_M_chain_45 rfl rfl rfl rfl).trans ?_
      refine (rn_goto d_M_chain_47 (t := 66) (by decide)).trans ?_
      exact rn_ri d_M_chain_66 rfl
    · refine (rn_ld d_M_chain_50 rfl rfl rfl rfl).trans ?_
      refine (rn_push d_M_chain_51 zcs_iconst_1).trans ?_
      refine (rn_ic_ne d_M_chain_52 (t := 62) (by decide)).trans (zif ?_ ?_)
      · refine (rn_ld d_M_chain_55 rfl rfl rfl rfl).trans ?_
        refine (rn_gi d_M_chain_56 f_4_228 zc_123).trans ?_
        refine (rn_goto d_M_chain_59 (t := 66) (by decide)).trans ?_
        exact rn_ri d_M_chain_66 rfl
      · refine (rn_ld d_M_chain_62 rfl rfl rfl rfl).trans ?_
        refine (rn_gi d_M_chain_63 f_4_225 zc_123).trans ?_
        exact rn_ri d_M_chain_66 rfl
  · refine (rn_ld d_M_chain_28 rfl rfl rfl rfl).trans ?_
    refine (rn_ld d_M_chain_29 rfl rfl rfl rfl).trans ?_
    refine (rn_vI d_M_chain_30 (zinv_v l_4_123 (by decide) (Nat.le_of_ble_eq_true rfl) rfl rfl zc_123 (Nat.le_of_ble_eq_true rfl)) (Nat.le_of_ble_eq_true rfl) (Or.inl rfl)).trans (zbI_congr fun v9 h8 => ?_)
    exact rn_ri d_M_chain_33 rfl
theorem b_M_chainFrom_4 {X : zX} {x1 : Int32} {x2 : Int32} {x3 : Int32} {h : zH} : zrn X 4 m_M_chainFrom 4 [some (.ref 123), some (.int x1), some (.int x2), some (.int x3)] [] h = (if x3 < 0 then (zbI (zcf X m_M_onesOf [.int x2] ((zup h.1 123 29 (if x3 < 0 then (0 : Int32) else 1)), h.2)) fun v3 h2 => (some (some (.int v3), h2))) else (zbI (zcf X m_M_hasBit [.int x2, .int x3] h) fun v5 h4 => (if v5 = 0 then (zbI (zcf X m_M_lensOf [.ref 123, .int x3] ((zup h4.1 123 30 x3), h4.2)) fun v7 h6 => zrn X 4 m_M_chainFrom 4 [some (.ref 123), some (.int x1), some (.int (x2 ||| ((1 : Int32) <<< (x3 &&& 31)))), some (.int v7)] [] h6) else (zbI (zcf X m_M_onesOf [.int x2] ((zup h4.1 123 29 (if x3 < 0 then (0 : Int32) else 1)), h4.2)) fun v10 h9 => (some (some (.int v10), h9)))))) := by
  refine (rn_ld d_M_chainFrom_4 rfl rfl rfl rfl).trans ?_
  refine (rn_if_lt d_M_chainFrom_5 (t := 36) (by decide)).trans (zif ?_ ?_)
  · refine (rn_ld d_M_chainFrom_36 rfl rfl rfl rfl).trans ?_
    refine (rn_ld d_M_chainFrom_37 rfl rfl rfl rfl).trans ?_
    refine Eq.trans (b := zrn X 4 m_M_chainFrom 46 [some (.ref 123), some (.int x1), some (.int x2), some (.int x3)] [.int (if x3 < 0 then (0 : Int32) else 1), .ref 123] h) ?_ ?_
    · refine (rn_if_lt d_M_chainFrom_38 (t := 45) (by decide)).trans ?_
      by_cases q1 : x3 < 0
      · simp only [if_pos q1]
        refine (rn_push d_M_chainFrom_45 zcs_iconst_0).trans ?_
        all_goals rfl
      · simp only [if_neg q1]
        refine (rn_push d_M_chainFrom_41 zcs_iconst_1).trans ?_
        refine (rn_goto d_M_chainFrom_42 (t := 46) (by decide)).trans ?_
        all_goals rfl
    refine (rn_pi d_M_chainFrom_46 f_4_228 zc_123).trans ?_
    refine (rn_ld d_M_chainFrom_49 rfl rfl rfl rfl).trans ?_
    refine (rn_sI d_M_chainFrom_50 nb_4_231 (zinv_s l_4_231 (by decide) (Nat.le_of_ble_eq_true rfl) rfl rfl (Nat.le_of_ble_eq_true rfl)) (Nat.le_of_ble_eq_true rfl) (Or.inl rfl)).trans (zbI_congr fun v3 h2 => ?_)
    exact rn_ri d_M_chainFrom_53 rfl
  · refine (rn_ld d_M_chainFrom_8 rfl rfl rfl rfl).trans ?_
    refine (rn_ld d_M_chainFrom_9 rfl rfl rfl rfl).trans ?_
    refine (rn_sI d_M_chainFrom_10 nb_4_221 (zinv_s l_4_221 (by decide) (Nat.le_of_ble_eq_true rfl) rfl rfl (Nat.le_of_ble_eq_true rfl)) (Nat.le_of_ble_eq_true rfl) (Or.inr rfl)).trans (zbI_congr fun v5 h4 => ?_)
    refine (rn_if_ne d_M_chainFrom_13 (t := 36) (by decide)).trans (zif ?_ ?_)
    · refine (rn_ld d_M_chainFrom_16 rfl rfl rfl rfl).trans ?_
      refine (rn_push d_M_chainFrom_17 zcs_iconst_1).trans ?_
      refine (rn_ld d_M_chainFrom_18 rfl rfl rfl rfl).trans ?_
      refine (rn_a2 d_M_chainFrom_19 rfl).trans ?_
      refine (rn_a2 d_M_chainFrom_20 rfl).trans ?_
      refine (rn_st d_M_chainFrom_21 rfl rfl rfl (by decide) rfl (Nat.le_of_ble_eq_true rfl) (ls' := [some (.ref 123), some (.int x1), some (.int (x2 ||| ((1 : Int32) <<< (x3 &&& 31)))), some (.int x3)]) rfl).trans ?_
      refine (rn_ld d_M_chainFrom_22 rfl rfl rfl rfl).trans ?_
      refine (rn_ld d_M_chainFrom_23 rfl rfl rfl rfl).trans ?_
      refine (rn_pi d_M_chainFrom_24 f_4_225 zc_123).trans ?_
      refine (rn_ld d_M_chainFrom_27 rfl rfl rfl rfl).trans ?_
      refine (rn_ld d_M_chainFrom_28 rfl rfl rfl rfl).trans ?_
      refine (rn_vI d_M_chainFrom_29 (zinv_v l_4_113 (by decide) (Nat.le_of_ble_eq_true rfl) rfl rfl zc_123 (Nat.le_of_ble_eq_true rfl)) (Nat.le_of_ble_eq_true rfl) (Or.inl rfl)).trans (zbI_congr fun v7 h6 => ?_)
      refine (rn_st d_M_chainFrom_32 rfl rfl rfl (by decide) rfl (Nat.le_of_ble_eq_true rfl) (ls' := [some (.ref 123), some (.int x1), some (.int (x2 ||| ((1 : Int32) <<< (x3 &&& 31)))), some (.int v7)]) rfl).trans ?_
      refine (rn_goto d_M_chainFrom_33 (t := 4) (by decide)).trans ?_
      rfl
    · refine (rn_ld d_M_chainFrom_36 rfl rfl rfl rfl).trans ?_
      refine (rn_ld d_M_chainFrom_37 rfl rfl rfl rfl).trans ?_
      refine Eq.trans (b := zrn X 4 m_M_chainFrom 46 [some (.ref 123), some (.int x1), some (.int x2), some (.int x3)] [.int (if x3 < 0 then (0 : Int32) else 1), .ref 123] h4) ?_ ?_
      · refine (rn_if_lt d_M_chainFrom_38 (t := 45) (by decide)).trans ?_
        by_cases q8 : x3 < 0
        · simp only [if_pos q8]
          refine (rn_push d_M_chainFrom_45 zcs_iconst_0).trans ?_
          all_goals rfl
        · simp only [if_neg q8]
          refine (rn_push d_M_chainFrom_41 zcs_iconst_1).trans ?_
          refine (rn_goto d_M_chainFrom_42 (t := 46) (by decide)).trans ?_
          all_goals rfl
      refine (rn_pi d_M_chainFrom_46 f_4_228 zc_123).trans ?_
      refine (rn_ld d_M_chainFrom_49 rfl rfl rfl rfl).trans ?_
      refine (rn_sI d_M_chainFrom_50 nb_4_231 (zinv_s l_4_231 (by decide) (Nat.le_of_ble_eq_true rfl) rfl rfl (Nat.le_of_ble_eq_true rfl)) (Nat.le_of_ble_eq_true rfl) (Or.inl rfl)).trans (zbI_congr fun v10 h9 => ?_)
      exact rn_ri d_M_chainFrom_53 rfl
theorem e_M_chainFrom {X : zX} {x1 : Int32} {h : zH} : zcf X m_M_chainFrom [.ref 123, .int x1] h = zrn X 4 m_M_chainFrom 4 [some (.ref 123), some (.int x1), some (.int 0), some (.int x1)] [] h := by
  refine (zcf_run (Nat.le_of_ble_eq_true rfl)).trans ?_
  show zrn X 4 m_M_chainFrom 0 [some (.ref 123), some (.int x1), none, none] [] h = _
  refine (rn_push d_M_chainFrom_0 zcs_iconst_0).trans ?_
  refine (rn_st d_M_chainFrom_1 rfl rfl rfl (by decide) rfl (Nat.le_of_ble_eq_true rfl) (ls' := [some (.ref 123), some (.int x1), some (.int 0), none]) rfl).trans ?_
  refine (rn_ld d_M_chainFrom_2 rfl rfl rfl rfl).trans ?_
  refine (rn_st d_M_chainFrom_3 rfl rfl rfl (by decide) rfl (Nat.le_of_ble_eq_true rfl) (ls' := [some (.ref 123), some (.int x1), some (.int 0), some (.int x1)]) rfl).trans ?_
  rfl
theorem e_M_hasBit {X : zX} {x0 : Int32} {x1 : Int32} {h : zH} : zcf X m_M_hasBit [.int x0, .int x1] h = (if ((x0 >>> (x1 &&& 31)) &&& 1) = 1 then (some (some (.int 1), h)) else (some (some (.int 0), h))) := by
  refine (zcf_run (Nat.le_of_ble_eq_true rfl)).trans ?_
  show zrn X 0 m_M_hasBit 0 [some (.int x0), some (.int x1)] [] h = _
  refine (rn_ld d_M_hasBit_0 rfl rfl rfl rfl).trans ?_
  refine (rn_ld d_M_hasBit_1 rfl rfl rfl rfl).trans ?_
  refine (rn_a2 d_M_hasBit_2 rfl).trans ?_
  refine (rn_push d_M_hasBit_3 zcs_iconst_1).trans ?_
  refine (rn_a2 d_M_hasBit_4 rfl).trans ?_
  refine (rn_push d_M_hasBit_5 zcs_iconst_1).trans ?_
  refine (rn_ic_ne d_M_hasBit_6 (t := 13) (by decide)).trans (zif ?_ ?_)
  · refine (rn_push d_M_hasBit_9 zcs_iconst_1).trans ?_
    refine (rn_goto d_M_hasBit_10 (t := 14) (by decide)).trans ?_
    exact rn_rz d_M_hasBit_14 rfl (by decide)
  · refine (rn_push d_M_hasBit_13 zcs_iconst_0).trans ?_
    exact rn_rz d_M_hasBit_14 rfl (by decide)
theorem b_M_onesOf_4 {X : zX} {x0 : Int32} {x1 : Int32} {x2 : Int32} {h : zH} : zrn X 0 m_M_onesOf 4 [some (.int x0), some (.int x1), some (.int x2)] [] h = (if x2 = 0 then (some (some (.int x1), h)) else zrn X 0 m_M_onesOf 4 [some (.int x0), some (.int (x1 + 1)), some (.int (x2 &&& (x2 - 1)))] [] h) := by
  refine (rn_ld d_M_onesOf_4 rfl rfl rfl rfl).trans ?_
  refine (rn_if_eq d_M_onesOf_5 (t := 20) (by decide)).trans (zif ?_ ?_)
  · refine (rn_ld d_M_onesOf_20 rfl rfl rfl rfl).trans ?_
    exact rn_ri d_M_onesOf_21 rfl
  · refine (rn_inc d_M_onesOf_8 rfl (c := 1) (by decide) (ls' := [some (.int x0), some (.int (x1 + 1)), some (.int x2)]) rfl).trans ?_
    refine (rn_ld d_M_onesOf_11 rfl rfl rfl rfl).trans ?_
    refine (rn_ld d_M_onesOf_12 rfl rfl rfl rfl).trans ?_
    refine (rn_push d_M_onesOf_13 zcs_iconst_1).trans ?_
    refine (rn_a2 d_M_onesOf_14 rfl).trans ?_
    refine (rn_a2 d_M_onesOf_15 rfl).trans ?_
    refine (rn_st d_M_onesOf_16 rfl rfl rfl (by decide) rfl (Nat.le_of_ble_eq_true rfl) (ls' := [some (.int x0), some (.int (x1 + 1)), some (.int (x2 &&& (x2 - 1)))]) rfl).trans ?_
    refine (rn_goto d_M_onesOf_17 (t := 4) (by decide)).trans ?_
    rfl
theorem e_M_onesOf {X : zX} {x0 : Int32} {h : zH} : zcf X m_M_onesOf [.int x0] h = zrn X 0 m_M_onesOf 4 [some (.int x0), some (.int 0), some (.int x0)] [] h := by
  refine (zcf_run (Nat.le_of_ble_eq_true rfl)).trans ?_
  show zrn X 0 m_M_onesOf 0 [some (.int x0), none, none] [] h = _
  refine (rn_push d_M_onesOf_0 zcs_iconst_0).trans ?_
  refine (rn_st d_M_onesOf_1 rfl rfl rfl (by decide) rfl (Nat.le_of_ble_eq_true rfl) (ls' := [some (.int x0), some (.int 0), none]) rfl).trans ?_
  refine (rn_ld d_M_onesOf_2 rfl rfl rfl rfl).trans ?_
  refine (rn_st d_M_onesOf_3 rfl rfl rfl (by decide) rfl (Nat.le_of_ble_eq_true rfl) (ls' := [some (.int x0), some (.int 0), some (.int x0)]) rfl).trans ?_
  rfl
theorem b_M_deepest_12 {X : zX} {x1 : Int32} {x2 : Int32} {x3 : Int32} {g4 : Option Value} {h : zH} : zrn X 5 m_M_deepest 12 [some (.ref 123), some (.int x1), some (.int x2), some (.int x3), g4] [] h = (if (h.1 123 0) ≤ x3 then (some (some (.int x1), h)) else (zbI (zcf X m_M_chainFrom [.ref 123, .int x3] h) fun v2 h1 => zrn X 5 m_M_deepest 12 [some (.ref 123), some (.int (if v2 ≤ x2 then x1 else x3)), some (.int (if v2 ≤ x2 then x2 else v2)), some (.int (x3 + 1)), some (.int v2)] [] h1)) := by
  refine (rn_ld d_M_deepest_12 rfl rfl rfl rfl).trans ?_
  refine (rn_ld d_M_deepest_13 rfl rfl rfl rfl).trans ?_
  refine (rn_gi d_M_deepest_14 f_4_65 zc_123).trans ?_
  refine (rn_ic_ge d_M_deepest_17 (t := 58) (by decide)).trans (zif ?_ ?_)
  · refine (rn_ld d_M_deepest_58 rfl rfl rfl rfl).trans ?_
    exact rn_ri d_M_deepest_59 rfl
  · refine (rn_ld d_M_deepest_20 rfl rfl rfl rfl).trans ?_
    refine (rn_ld d_M_deepest_21 rfl rfl rfl rfl).trans ?_
    refine (rn_vI d_M_deepest_22 (zinv_v l_4_234 (by decide) (Nat.le_of_ble_eq_true rfl) rfl rfl zc_123 (Nat.le_of_ble_eq_true rfl)) (Nat.le_of_ble_eq_true rfl) (Or.inl rfl)).trans (zbI_congr fun v2 h1 => ?_)
    refine (rn_st d_M_deepest_25 rfl rfl rfl (by decide) rfl (Nat.le_of_ble_eq_true rfl) (ls' := [some (.ref 123), some (.int x1), some (.int x2), some (.int x3), some (.int v2)]) rfl).trans ?_
    refine (rn_ld d_M_deepest_27 rfl rfl rfl rfl).trans ?_
    refine (rn_ld d_M_deepest_29 rfl rfl rfl rfl).trans ?_
    refine Eq.trans (b := zrn X 5 m_M_deepest 38 [some (.ref 123), some (.int x1), some (.int x2), some (.int x3), some (.int v2)] [.int (if v2 ≤ x2 then x1 else x3)] h1) ?_ ?_
    · refine (rn_ic_le d_M_deepest_30 (t := 37) (by decide)).trans ?_
      by_cases q3 : v2 ≤ x2
      · simp only [if_pos q3]
        refine (rn_ld d_M_deepest_37 rfl rfl rfl rfl).trans ?_
        all_goals rfl
      · simp only [if_neg q3]
        refine (rn_ld d_M_deepest_33 rfl rfl rfl rfl).trans ?_
        refine (rn_goto d_M_deepest_34 (t := 38) (by decide)).trans ?_
        all_goals rfl
    refine (rn_st d_M_deepest_38 rfl rfl rfl (by decide) rfl (Nat.le_of_ble_eq_true rfl) (ls' := [some (.ref 123), some (.int (if v2 ≤ x2 then x1 else x3)), some (.int x2), some (.int x3), some (.int v2)]) rfl).trans ?_
    refine (rn_ld d_M_deepest_39 rfl rfl rfl rfl).trans ?_
    refine (rn_ld d_M_deepest_41 rfl rfl rfl rfl).trans ?_
    refine Eq.trans (b := zrn X 5 m_M_deepest 51 [some (.ref 123), some (.int (if v2 ≤ x2 then x1 else x3)), some (.int x2), some (.int x3), some (.int v2)] [.int (if v2 ≤ x2 then x2 else v2)] h1) ?_ ?_
    · refine (rn_ic_le d_M_deepest_42 (t := 50) (by decide)).trans ?_
      by_cases q4 : v2 ≤ x2
      · simp only [if_pos q4]
        refine (rn_ld d_M_deepest_50 rfl rfl rfl rfl).trans ?_
        all_goals rfl
      · simp only [if_neg q4]
        refine (rn_ld d_M_deepest_45 rfl rfl rfl rfl).trans ?_
        refine (rn_goto d_M_deepest_47 (t := 51) (by decide)).trans ?_
        all_goals rfl
    refine (rn_st d_M_deepest_51 rfl rfl rfl (by decide) rfl (Nat.le_of_ble_eq_true rfl) (ls' := [some (.ref 123), some (.int (if v2 ≤ x2 then x1 else x3)), some (.int (if v2 ≤ x2 then x2 else v2)), some (.int x3), some (.int v2)]) rfl).trans ?_
    refine (rn_inc d_M_deepest_52 rfl (c := 1) (by decide) (ls' := [some (.ref 123), some (.int (if v2 ≤ x2 then x1 else x3)), some (.int (if v2 ≤ x2 then x2 else v2)), some (.int (x3 + 1)), some (.int v2)]) rfl).trans ?_
    refine (rn_goto d_M_deepest_55 (t := 12) (by decide)).trans ?_
    rfl
theorem e_M_deepest {X : zX} {h : zH} : zcf X m_M_deepest [.ref 123] h = zrn X 5 m_M_deepest 12 [some (.ref 123), some (.int (-9)), some (.int 0), some (.int 0), none] [] ((zup h.1 123 7 0), h.2) := by
  refine (zcf_run (Nat.le_of_ble_eq_true rfl)).trans ?_
  show zrn X 5 m_M_deepest 0 [some (.ref 123), none, none, none, none] [] h = _
  refine (rn_ld d_M_deepest_0 rfl rfl rfl rfl).trans ?_
  refine (rn_push d_M_deepest_1 zcs_iconst_0).trans ?_
  refine (rn_pi d_M_deepest_2 f_4_61 zc_123).trans ?_
  refine (rn_push d_M_deepest_5 zcs_bipush_m9).trans ?_
  refine (rn_st d_M_deepest_7 rfl rfl rfl (by decide) rfl (Nat.le_of_ble_eq_true rfl) (ls' := [some (.ref 123), some (.int (-9)), none, none, none]) rfl).trans ?_
  refine (rn_push d_M_deepest_8 zcs_iconst_0).trans ?_
  refine (rn_st d_M_deepest_9 rfl rfl rfl (by decide) rfl (Nat.le_of_ble_eq_true rfl) (ls' := [some (.ref 123), some (.int (-9)), some (.int 0), none, none]) rfl).trans ?_
  refine (rn_push d_M_deepest_10 zcs_iconst_0).trans ?_
  refine (rn_st d_M_deepest_11 rfl rfl rfl (by decide) rfl (Nat.le_of_ble_eq_true rfl) (ls' := [some (.ref 123), some (.int (-9)), some (.int 0), some (.int 0), none]) rfl).trans ?_
  rfl
theorem b_M_knows_43 {X : zX} {x1 : Int32} {x2 : Int32} {x3 : Int32} {x4 : Int32} {x5 : Int32} {g6 : Option Value} {g7 : Option Value} {h : zH} : zrn X 4 m_M_knows 43 [some (.ref 123), some (.int x1), some (.int x2), some (.int x3), some (.int x4), some (.int x5), g6, g7] [] h = (if x2 ≤ x5 then (some (some (.int x4), h)) else zrn X 4 m_M_knows 56 [some (.ref 123), some (.int x1), some (.int x2), some (.int x3), some (.int x4), some (.int x5), some (.int x4), some (.int 0)] [] h) := by
  refine (rn_ld d_M_knows_43 rfl rfl rfl rfl).trans ?_
  refine (rn_ld d_M_knows_45 rfl rfl rfl rfl).trans ?_
  refine (rn_ic_ge d_M_knows_46 (t := 143) (by decide)).trans (zif ?_ ?_)
  · refine (rn_ld d_M_knows_143 rfl rfl rfl rfl).trans ?_
    exact rn_ri d_M_knows_145 rfl
  · refine (rn_ld d_M_knows_49 rfl rfl rfl rfl).trans ?_
    refine (rn_st d_M_knows_51 rfl rfl rfl (by decide) rfl (Nat.le_of_ble_eq_true rfl) (ls' := [some (.ref 123), some (.int x1), some (.int x2), some (.int x3), some (.int x4), some (.int x5), some (.int x4), g7]) rfl).trans ?_
    refine (rn_push d_M_knows_53 zcs_iconst_0).trans ?_
    refine (rn_st d_M_knows_54 rfl rfl rfl (by decide) rfl (Nat.le_of_ble_eq_true rfl) (ls' := [some (.ref 123), some (.int x1), some (.int x2), some (.int x3), some (.int x4), some (.int x5), some (.int x4), some (.int 0)]) rfl).trans ?_
    rfl
theorem b_M_knows_56 {X : zX} {x1 : Int32} {x2 : Int32} {x3 : Int32} {x4 : Int32} {x5 : Int32} {x6 : Int32} {x7 : Int32} {h : zH} : zrn X 4 m_M_knows 56 [some (.ref 123), some (.int x1), some (.int x2), some (.int x3), some (.int x4), some (.int x5), some (.int x6), some (.int x7)] [] h = (if (h.1 123 0) ≤ x7 then zrn X 4 m_M_knows 43 [some (.ref 123), some (.int x1), some (.int x2), some (.int x3), some (.int x6), some (.int (x5 + 1)), some (.int x6), some (.int x7)] [] h else (zbI (zcf X m_M_hasBit [.int x4, .int x7] h) fun v2 h1 => (if v2 = 0 then zrn X 4 m_M_knows 56 [some (.ref 123), some (.int x1), some (.int x2), some (.int x3), some (.int x4), some (.int x5), some (.int x6), some (.int (x7 + 1))] [] h1 else (zbI (zcf X m_M_aheadOf [.ref 123, .int x7] h1) fun v4 h3 => (if 0 ≤ v4 then (zbI (zcf X m_M_aheadOf [.ref 123, .int x7] h3) fun v6 h5 => (zbI (zcf X m_M_lensOf [.ref 123, .int x7] h5) fun v8 h7 => (if 0 ≤ v8 then (zbI (zcf X m_M_lensOf [.ref 123, .int x7] h7) fun v10 h9 => zrn X 4 m_M_knows 56 [some (.ref 123), some (.int x1), some (.int x2), some (.int x3), some (.int x4), some (.int x5), some (.int ((x6 ||| ((1 : Int32) <<< (v6 &&& 31))) ||| ((1 : Int32) <<< (v10 &&& 31)))), some (.int (x7 + 1))] [] h9) else zrn X 4 m_M_knows 56 [some (.ref 123), some (.int x1), some (.int x2), some (.int x3), some (.int x4), some (.int x5), some (.int ((x6 ||| ((1 : Int32) <<< (v6 &&& 31))) ||| 0)), some (.int (x7 + 1))] [] h7))) else (zbI (zcf X m_M_lensOf [.ref 123, .int x7] h3) fun v12 h11 => (if 0 ≤ v12 then (zbI (zcf X m_M_lensOf [.ref 123, .int x7] h11) fun v14 h13 => zrn X 4 m_M_knows 56 [some (.ref 123), some (.int x1), some (.int x2), some (.int x3), some (.int x4), some (.int x5), some (.int ((x6 ||| 0) ||| ((1 : Int32) <<< (v14 &&& 31)))), some (.int (x7 + 1))] [] h13) else zrn X 4 m_M_knows 56 [some (.ref 123), some (.int x1), some (.int x2), some (.int x3), some (.int x4), some (.int x5), some (.int ((x6 ||| 0) ||| 0)), some (.int (x7 + 1))] [] h11))))))) := by
  refine (rn_ld d_M_knows_56 rfl rfl rfl rfl).trans ?_
  refine (rn_ld d_M_knows_58 rfl rfl rfl rfl).trans ?_
  refine (rn_gi d_M_knows_59 f_4_65 zc_123).trans ?_
  refine (rn_ic_ge d_M_knows_62 (t := 133) (by decide)).trans (zif ?_ ?_)
  · refine (rn_ld d_M_knows_133 rfl rfl rfl rfl).trans ?_
    refine (rn_st d_M_knows_135 rfl rfl rfl (by decide) rfl (Nat.le_of_ble_eq_true rfl) (ls' := [some (.ref 123), some (.int x1), some (.int x2), some (.int x3), some (.int x6), some (.int x5), some (.int x6), some (.int x7)]) rfl).trans ?_
    refine (rn_inc d_M_knows_137 rfl (c := 1) (by decide) (ls' := [some (.ref 123), some (.int x1), some (.int x2), some (.int x3), some (.int x6), some (.int (x5 + 1)), some (.int x6), some (.int x7)]) rfl).trans ?_
    refine (rn_goto d_M_knows_140 (t := 43) (by decide)).trans ?_
    rfl
  · refine (rn_ld d_M_knows_65 rfl rfl rfl rfl).trans ?_
    refine (rn_ld d_M_knows_67 rfl rfl rfl rfl).trans ?_
    refine (rn_sI d_M_knows_69 nb_4_221 (zinv_s l_4_221 (by decide) (Nat.le_of_ble_eq_true rfl) rfl rfl (Nat.le_of_ble_eq_true rfl)) (Nat.le_of_ble_eq_true rfl) (Or.inr rfl)).trans (zbI_congr fun v2 h1 => ?_)
    refine (rn_if_eq d_M_knows_72 (t := 127) (by decide)).trans (zif ?_ ?_)
    · refine (rn_inc d_M_knows_127 rfl (c := 1) (by decide) (ls' := [some (.ref 123), some (.int x1), some (.int x2), some (.int x3), some (.int x4), some (.int x5), some (.int x6), some (.int (x7 + 1))]) rfl).trans ?_
      refine (rn_goto d_M_knows_130 (t := 56) (by decide)).trans ?_
      rfl
    · refine (rn_ld d_M_knows_75 rfl rfl rfl rfl).trans ?_
      refine (rn_ld d_M_knows_77 rfl rfl rfl rfl).trans ?_
      refine (rn_ld d_M_knows_78 rfl rfl rfl rfl).trans ?_
      refine (rn_vI d_M_knows_80 (zinv_v l_4_97 (by decide) (Nat.le_of_ble_eq_true rfl) rfl rfl zc_123 (Nat.le_of_ble_eq_true rfl)) (Nat.le_of_ble_eq_true rfl) (Or.inl rfl)).trans (zbI_congr fun v4 h3 => ?_)
      refine (rn_if_ge d_M_knows_83 (t := 90) (by decide)).trans (zif ?_ ?_)
      · refine (rn_push d_M_knows_90 zcs_iconst_1).trans ?_
        refine (rn_ld d_M_knows_91 rfl rfl rfl rfl).trans ?_
        refine (rn_ld d_M_knows_92 rfl rfl rfl rfl).trans ?_
        refine (rn_vI d_M_knows_94 (zinv_v l_4_97 (by decide) (Nat.le_of_ble_eq_true rfl) rfl rfl zc_123 (Nat.le_of_ble_eq_true rfl)) (Nat.le_of_ble_eq_true rfl) (Or.inl rfl)).trans (zbI_congr fun v6 h5 => ?_)
        refine (rn_a2 d_M_knows_97 rfl).trans ?_
        refine (rn_a2 d_M_knows_98 rfl).trans ?_
        refine (rn_st d_M_knows_99 rfl rfl rfl (by decide) rfl (Nat.le_of_ble_eq_true rfl) (ls' := [some (.ref 123), some (.int x1), some (.int x2), some (.int x3), some (.int x4), some (.int x5), some (.int (x6 ||| ((1 : Int32) <<< (v6 &&& 31)))), some (.int x7)]) rfl).trans ?_
        refine (rn_ld d_M_knows_101 rfl rfl rfl rfl).trans ?_
        refine (rn_ld d_M_knows_103 rfl rfl rfl rfl).trans ?_
        refine (rn_ld d_M_knows_104 rfl rfl rfl rfl).trans ?_
        refine (rn_vI d_M_knows_106 (zinv_v l_4_113 (by decide) (Nat.le_of_ble_eq_true rfl) rfl rfl zc_123 (Nat.le_of_ble_eq_true rfl)) (Nat.le_of_ble_eq_true rfl) (Or.inl rfl)).trans (zbI_congr fun v8 h7 => ?_)
        refine (rn_if_ge d_M_knows_109 (t := 116) (by decide)).trans (zif ?_ ?_)
        · refine (rn_push d_M_knows_116 zcs_iconst_1).trans ?_
          refine (rn_ld d_M_knows_117 rfl rfl rfl rfl).trans ?_
          refine (rn_ld d_M_knows_118 rfl rfl rfl rfl).trans ?_
          refine (rn_vI d_M_knows_120 (zinv_v l_4_113 (by decide) (Nat.le_of_ble_eq_true rfl) rfl rfl zc_123 (Nat.le_of_ble_eq_true rfl)) (Nat.le_of_ble_eq_true rfl) (Or.inl rfl)).trans (zbI_congr fun v10 h9 => ?_)
          refine (rn_a2 d_M_knows_123 rfl).trans ?_
          refine (rn_a2 d_M_knows_124 rfl).trans ?_
          refine (rn_st d_M_knows_125 rfl rfl rfl (by decide) rfl (Nat.le_of_ble_eq_true rfl) (ls' := [some (.ref 123), some (.int x1), some (.int x2), some (.int x3), some (.int x4), some (.int x5), some (.int ((x6 ||| ((1 : Int32) <<< (v6 &&& 31))) ||| ((1 : Int32) <<< (v10 &&& 31)))), some (.int x7)]) rfl).trans ?_
          refine (rn_inc d_M_knows_127 rfl (c := 1) (by decide) (ls' := [some (.ref 123), some (.int x1), some (.int x2), some (.int x3), some (.int x4), some (.int x5), some (.int ((x6 ||| ((1 : Int32) <<< (v6 &&& 31))) ||| ((1 : Int32) <<< (v10 &&& 31)))), some (.int (x7 + 1))]) rfl).trans ?_
          refine (rn_goto d_M_knows_130 (t := 56) (by decide)).trans ?_
          rfl
        · refine (rn_push d_M_knows_112 zcs_iconst_0).trans ?_
          refine (rn_goto d_M_knows_113 (t := 124) (by decide)).trans ?_
          refine (rn_a2 d_M_knows_124 rfl).trans ?_
          refine (rn_st d_M_knows_125 rfl rfl rfl (by decide) rfl (Nat.le_of_ble_eq_true rfl) (ls' := [some (.ref 123), some (.int x1), some (.int x2), some (.int x3), some (.int x4), some (.int x5), some (.int ((x6 ||| ((1 : Int32) <<< (v6 &&& 31))) ||| 0)), some (.int x7)]) rfl).trans ?_
          refine (rn_inc d_M_knows_127 rfl (c := 1) (by decide) (ls' := [some (.ref 123), some (.int x1), some (.int x2), some (.int x3), some (.int x4), some (.int x5), some (.int ((x6 ||| ((1 : Int32) <<< (v6 &&& 31))) ||| 0)), some (.int (x7 + 1))]) rfl).trans ?_
          refine (rn_goto d_M_knows_130 (t := 56) (by decide)).trans ?_
          rfl
      · refine (rn_push d_M_knows_86 zcs_iconst_0).trans ?_
        refine (rn_goto d_M_knows_87 (t := 98) (by decide)).trans ?_
        refine (rn_a2 d_M_knows_98 rfl).trans ?_
        refine (rn_st d_M_knows_99 rfl rfl rfl (by decide) rfl (Nat.le_of_ble_eq_true rfl) (ls' := [some (.ref 123), some (.int x1), some (.int x2), some (.int x3), some (.int x4), some (.int x5), some (.int (x6 ||| 0)), some (.int x7)]) rfl).trans ?_
        refine (rn_ld d_M_knows_101 rfl rfl rfl rfl).trans ?_
        refine (rn_ld d_M_knows_103 rfl rfl rfl rfl).trans ?_
        refine (rn_ld d_M_knows_104 rfl rfl rfl rfl).trans ?_
        refine (rn_vI d_M_knows_106 (zinv_v l_4_113 (by decide) (Nat.le_of_ble_eq_true rfl) rfl rfl zc_123 (Nat.le_of_ble_eq_true rfl)) (Nat.le_of_ble_eq_true rfl) (Or.inl rfl)).trans (zbI_congr fun v12 h11 => ?_)
        refine (rn_if_ge d_M_knows_109 (t := 116) (by decide)).trans (zif ?_ ?_)
        · refine (rn_push d_M_knows_116 zcs_iconst_1).trans ?_
          refine (rn_ld d_M_knows_117 rfl rfl rfl rfl).trans ?_
          refine (rn_ld d_M_knows_118 rfl rfl rfl rfl).trans ?_
          refine (rn_vI d_M_knows_120 (zinv_v l_4_113 (by decide) (Nat.le_of_ble_eq_true rfl) rfl rfl zc_123 (Nat.le_of_ble_eq_true rfl)) (Nat.le_of_ble_eq_true rfl) (Or.inl rfl)).trans (zbI_congr fun v14 h13 => ?_)
          refine (rn_a2 d_M_knows_123 rfl).trans ?_
          refine (rn_a2 d_M_knows_124 rfl).trans ?_
          refine (rn_st d_M_knows_125 rfl rfl rfl (by decide) rfl (Nat.le_of_ble_eq_true rfl) (ls' := [some (.ref 123), some (.int x1), some (.int x2), some (.int x3), some (.int x4), some (.int x5), some (.int ((x6 ||| 0) ||| ((1 : Int32) <<< (v14 &&& 31)))), some (.int x7)]) rfl).trans ?_
          refine (rn_inc d_M_knows_127 rfl (c := 1) (by decide) (ls' := [some (.ref 123), some (.int x1), some (.int x2), some (.int x3), some (.int x4), some (.int x5), some (.int ((x6 ||| 0) ||| ((1 : Int32) <<< (v14 &&& 31)))), some (.int (x7 + 1))]) rfl).trans ?_
          refine (rn_goto d_M_knows_130 (t := 56) (by decide)).trans ?_
          rfl
        · refine (rn_push d_M_knows_112 zcs_iconst_0).trans ?_
          refine (rn_goto d_M_knows_113 (t := 124) (by decide)).trans ?_
          refine (rn_a2 d_M_knows_124 rfl).trans ?_
          refine (rn_st d_M_knows_125 rfl rfl rfl (by decide) rfl (Nat.le_of_ble_eq_true rfl) (ls' := [some (.ref 123), some (.int x1), some (.int x2), some (.int x3), some (.int x4), some (.int x5), some (.int ((x6 ||| 0) ||| 0)), some (.int x7)]) rfl).trans ?_
          refine (rn_inc d_M_knows_127 rfl (c := 1) (by decide) (ls' := [some (.ref 123), some (.int x1), some (.int x2), some (.int x3), some (.int x4), some (.int x5), some (.int ((x6 ||| 0) ||| 0)), some (.int (x7 + 1))]) rfl).trans ?_
          refine (rn_goto d_M_knows_130 (t := 56) (by decide)).trans ?_
          rfl
theorem e_M_knows {X : zX} {x1 : Int32} {x2 : Int32} {h : zH} : zcf X m_M_knows [.ref 123, .int x1, .int x2] h = (zbI (zcf X m_M_isOne [.ref 123, .int x1] ((zup h.1 123 7 0), h.2)) fun v2 h1 => (if v2 = 0 then (zbI (zcf X m_M_refuse [.ref 123, .int (-1)] h1) fun v4 h3 => (some (some (.int v4), h3))) else (zbI (zcf X m_M_wrongNumber [.int x2, .int 0, .int 6] h1) fun v6 h5 => (if 0 ≤ v6 then zrn X 4 m_M_knows 43 [some (.ref 123), some (.int x1), some (.int x2), some (.int v6), some (.int ((1 : Int32) <<< (x1 &&& 31))), some (.int 0), none, none] [] h5 else (zbI (zcf X m_M_refuse [.ref 123, .int v6] h5) fun v8 h7 => (some (some (.int v8), h7))))))) := by
  refine (zcf_run (Nat.le_of_ble_eq_true rfl)).trans ?_
  show zrn X 4 m_M_knows 0 [some (.ref 123), some (.int x1), some (.int x2), none, none, none, none, none] [] h = _
  refine (rn_ld d_M_knows_0 rfl rfl rfl rfl).trans ?_
  refine (rn_push d_M_knows_1 zcs_iconst_0).trans ?_
  refine (rn_pi d_M_knows_2 f_4_61 zc_123).trans ?_
  refine (rn_ld d_M_knows_5 rfl rfl rfl rfl).trans ?_
  refine (rn_ld d_M_knows_6 rfl rfl rfl rfl).trans ?_
  refine (rn_vI d_M_knows_7 (zinv_v l_4_72 (by decide) (Nat.le_of_ble_eq_true rfl) rfl rfl zc_123 (Nat.le_of_ble_eq_true rfl)) (Nat.le_of_ble_eq_true rfl) (Or.inr rfl)).trans (zbI_congr fun v2 h1 => ?_)
  refine (rn_if_eq d_M_knows_10 (t := 23) (by decide)).trans (zif ?_ ?_)
  · refine (rn_push d_M_knows_23 zcs_iconst_m1).trans ?_
    refine (rn_st d_M_knows_24 rfl rfl rfl (by decide) rfl (Nat.le_of_ble_eq_true rfl) (ls' := [some (.ref 123), some (.int x1), some (.int x2), some (.int (-1)), none, none, none, none]) rfl).trans ?_
    refine (rn_ld d_M_knows_25 rfl rfl rfl rfl).trans ?_
    refine ((rn_if_ge d_M_knows_26 (t := 35) (by decide)).trans (if_neg (by decide))).trans ?_
    refine (rn_ld d_M_knows_29 rfl rfl rfl rfl).trans ?_
    refine (rn_ld d_M_knows_30 rfl rfl rfl rfl).trans ?_
    refine (rn_vI d_M_knows_31 (zinv_v l_4_123 (by decide) (Nat.le_of_ble_eq_true rfl) rfl rfl zc_123 (Nat.le_of_ble_eq_true rfl)) (Nat.le_of_ble_eq_true rfl) (Or.inl rfl)).trans (zbI_congr fun v4 h3 => ?_)
    exact rn_ri d_M_knows_34 rfl
  · refine (rn_ld d_M_knows_13 rfl rfl rfl rfl).trans ?_
    refine (rn_push d_M_knows_14 zcs_iconst_0).trans ?_
    refine (rn_push d_M_knows_15 zcs_bipush_6).trans ?_
    refine (rn_sI d_M_knows_17 nb_4_201 (zinv_s l_4_201 (by decide) (Nat.le_of_ble_eq_true rfl) rfl rfl (Nat.le_of_ble_eq_true rfl)) (Nat.le_of_ble_eq_true rfl) (Or.inl rfl)).trans (zbI_congr fun v6 h5 => ?_)
    refine (rn_goto d_M_knows_20 (t := 24) (by decide)).trans ?_
    refine (rn_st d_M_knows_24 rfl rfl rfl (by decide) rfl (Nat.le_of_ble_eq_true rfl) (ls' := [some (.ref 123), some (.int x1), some (.int x2), some (.int v6), none, none, none, none]) rfl).trans ?_
    refine (rn_ld d_M_knows_25 rfl rfl rfl rfl).trans ?_
    refine (rn_if_ge d_M_knows_26 (t := 35) (by decide)).trans (zif ?_ ?_)
    · refine (rn_push d_M_knows_35 zcs_iconst_1).trans ?_
      refine (rn_ld d_M_knows_36 rfl rfl rfl rfl).trans ?_
      refine (rn_a2 d_M_knows_37 rfl).trans ?_
      refine (rn_st d_M_knows_38 rfl rfl rfl (by decide) rfl (Nat.le_of_ble_eq_true rfl) (ls' := [some (.ref 123), some (.int x1), some (.int x2), some (.int v6), some (.int ((1 : Int32) <<< (x1 &&& 31))), none, none, none]) rfl).trans ?_
      refine (rn_push d_M_knows_40 zcs_iconst_0).trans ?_
      refine (rn_st d_M_knows_41 rfl rfl rfl (by decide) rfl (Nat.le_of_ble_eq_true rfl) (ls' := [some (.ref 123), some (.int x1), some (.int x2), some (.int v6), some (.int ((1 : Int32) <<< (x1 &&& 31))), some (.int 0), none, none]) rfl).trans ?_
      rfl
    · refine (rn_ld d_M_knows_29 rfl rfl rfl rfl).trans ?_
      refine (rn_ld d_M_knows_30 rfl rfl rfl rfl).trans ?_
      refine (rn_vI d_M_knows_31 (zinv_v l_4_123 (by decide) (Nat.le_of_ble_eq_true rfl) rfl rfl zc_123 (Nat.le_of_ble_eq_true rfl)) (Nat.le_of_ble_eq_true rfl) (Or.inl rfl)).trans (zbI_congr fun v8 h7 => ?_)
      exact rn_ri d_M_knows_34 rfl
theorem b_M_safe_52 {X : zX} {x1 : Int32} {x2 : Int32} {x3 : Int32} {x4 : Int32} {x5 : Int32} {x6 : Int32} {x7 : Int32} {g8 : Option Value} {h : zH} : zrn X 4 m_M_safe 52 [some (.ref 123), some (.int x1), some (.int x2), some (.int x3), some (.int x4), some (.int x5), some (.int x6), some (.int x7), g8] [] h = (if x7 < 0 then (if zin x1 7 = true then (if x2 = 0 then (some (some (.int x5), ((zup h.1 127 (Int32.toNatClampNeg x1) x4), h.2))) else (some (some (.int x6), ((zup h.1 127 (Int32.toNatClampNeg x1) x4), h.2)))) else none) else (if zin x1 7 = true then (zbI (zcf X m_M_lensOf [.ref 123, .int x1] ((zup h.1 127 (Int32.toNatClampNeg x1) x7), h.2)) fun v2 h1 => (if (if 0 ≤ v2 then (0 : Int32) else 1) = 0 then zrn X 4 m_M_safe 52 [some (.ref 123), some (.int x1), some (.int x2), some (.int x3), some (.int x4), some (.int (x5 ||| (if (if 0 ≤ v2 then (0 : Int32) else 1) = 0 then (0 : Int32) else ((1 : Int32) <<< (x7 &&& 31))))), some (.int x6), some (.int (x7 + (-1))), some (.int (if 0 ≤ v2 then (0 : Int32) else 1))] [] h1 else (zbI (zcf X m_M_aheadOf [.ref 123, .int x1] h1) fun v6 h5 => zrn X 4 m_M_safe 52 [some (.ref 123), some (.int x1), some (.int x2), some (.int x3), some (.int x4), some (.int (x5 ||| (if (if 0 ≤ v2 then (0 : Int32) else 1) = 0 then (0 : Int32) else ((1 : Int32) <<< (x7 &&& 31))))), some (.int (if v6 < 0 then x6 else x7)), some (.int (x7 + (-1))), some (.int (if 0 ≤ v2 then (0 : Int32) else 1))] [] h5))) else none)) := by
  refine (rn_ld d_M_safe_52 rfl rfl rfl rfl).trans ?_
  refine (rn_if_lt d_M_safe_54 (t := 126) (by decide)).trans (zif ?_ ?_)
  · refine (rn_ld d_M_safe_126 rfl rfl rfl rfl).trans ?_
    refine (rn_gr d_M_safe_127 f_4_19 zc_123 zr_123_4).trans ?_
    refine (rn_ld d_M_safe_130 rfl rfl rfl rfl).trans ?_
    refine (rn_ld d_M_safe_131 rfl rfl rfl rfl).trans ?_
    refine (rn_ias d_M_safe_133 zc_127).trans (zif ?_ rfl)
    refine (rn_ld d_M_safe_134 rfl rfl rfl rfl).trans ?_
    refine (rn_if_ne d_M_safe_135 (t := 143) (by decide)).trans (zif ?_ ?_)
    · refine (rn_ld d_M_safe_138 rfl rfl rfl rfl).trans ?_
      refine (rn_goto d_M_safe_140 (t := 145) (by decide)).trans ?_
      exact rn_ri d_M_safe_145 rfl
    · refine (rn_ld d_M_safe_143 rfl rfl rfl rfl).trans ?_
      exact rn_ri d_M_safe_145 rfl
  · refine (rn_ld d_M_safe_57 rfl rfl rfl rfl).trans ?_
    refine (rn_gr d_M_safe_58 f_4_19 zc_123 zr_123_4).trans ?_
    refine (rn_ld d_M_safe_61 rfl rfl rfl rfl).trans ?_
    refine (rn_ld d_M_safe_62 rfl rfl rfl rfl).trans ?_
    refine (rn_ias d_M_safe_64 zc_127).trans (zif ?_ rfl)
    refine (rn_ld d_M_safe_65 rfl rfl rfl rfl).trans ?_
    refine (rn_ld d_M_safe_66 rfl rfl rfl rfl).trans ?_
    refine (rn_vI d_M_safe_67 (zinv_v l_4_113 (by decide) (Nat.le_of_ble_eq_true rfl) rfl rfl zc_123 (Nat.le_of_ble_eq_true rfl)) (Nat.le_of_ble_eq_true rfl) (Or.inl rfl)).trans (zbI_congr fun v2 h1 => ?_)
    refine Eq.trans (b := zrn X 4 m_M_safe 78 [some (.ref 123), some (.int x1), some (.int x2), some (.int x3), some (.int x4), some (.int x5), some (.int x6), some (.int x7), g8] [.int (if 0 ≤ v2 then (0 : Int32) else 1)] h1) ?_ ?_
    · refine (rn_if_ge d_M_safe_70 (t := 77) (by decide)).trans ?_
      by_cases q3 : 0 ≤ v2
      · simp only [if_pos q3]
        refine (rn_push d_M_safe_77 zcs_iconst_0).trans ?_
        all_goals rfl
      · simp only [if_neg q3]
        refine (rn_push d_M_safe_73 zcs_iconst_1).trans ?_
        refine (rn_goto d_M_safe_74 (t := 78) (by decide)).trans ?_
        all_goals rfl
    refine (rn_st d_M_safe_78 rfl rfl rfl (by decide) rfl (Nat.le_of_ble_eq_true rfl) (ls' := [some (.ref 123), some (.int x1), some (.int x2), some (.int x3), some (.int x4), some (.int x5), some (.int x6), some (.int x7), some (.int (if 0 ≤ v2 then (0 : Int32) else 1))]) rfl).trans ?_
    refine (rn_ld d_M_safe_80 rfl rfl rfl rfl).trans ?_
    refine (rn_ld d_M_safe_82 rfl rfl rfl rfl).trans ?_
    refine Eq.trans (b := zrn X 4 m_M_safe 95 [some (.ref 123), some (.int x1), some (.int x2), some (.int x3), some (.int x4), some (.int x5), some (.int x6), some (.int x7), some (.int (if 0 ≤ v2 then (0 : Int32) else 1))] [.int (if (if 0 ≤ v2 then (0 : Int32) else 1) = 0 then (0 : Int32) else ((1 : Int32) <<< (x7 &&& 31))), .int x5] h1) ?_ ?_
    · refine (rn_if_eq d_M_safe_84 (t := 94) (by decide)).trans ?_
      by_cases q4 : (if 0 ≤ v2 then (0 : Int32) else 1) = 0
      · simp only [if_pos q4]
        refine (rn_push d_M_safe_94 zcs_iconst_0).trans ?_
        all_goals rfl
      · simp only [if_neg q4]
        refine (rn_push d_M_safe_87 zcs_iconst_1).trans ?_
        refine (rn_ld d_M_safe_88 rfl rfl rfl rfl).trans ?_
        refine (rn_a2 d_M_safe_90 rfl).trans ?_
        refine (rn_goto d_M_safe_91 (t := 95) (by decide)).trans ?_
        all_goals rfl
    refine (rn_a2 d_M_safe_95 rfl).trans ?_
    refine (rn_st d_M_safe_96 rfl rfl rfl (by decide) rfl (Nat.le_of_ble_eq_true rfl) (ls' := [some (.ref 123), some (.int x1), some (.int x2), some (.int x3), some (.int x4), some (.int (x5 ||| (if (if 0 ≤ v2 then (0 : Int32) else 1) = 0 then (0 : Int32) else ((1 : Int32) <<< (x7 &&& 31))))), some (.int x6), some (.int x7), some (.int (if 0 ≤ v2 then (0 : Int32) else 1))]) rfl).trans ?_
    refine (rn_ld d_M_safe_98 rfl rfl rfl rfl).trans ?_
    refine (rn_if_eq d_M_safe_100 (t := 116) (by decide)).trans (zif ?_ ?_)
    · refine (rn_ld d_M_safe_116 rfl rfl rfl rfl).trans ?_
      refine (rn_st d_M_safe_118 rfl rfl rfl (by decide) rfl (Nat.le_of_ble_eq_true rfl) (ls' := [some (.ref 123), some (.int x1), some (.int x2), some (.int x3), some (.int x4), some (.int (x5 ||| (if (if 0 ≤ v2 then (0 : Int32) else 1) = 0 then (0 : Int32) else ((1 : Int32) <<< (x7 &&& 31))))), some (.int x6), some (.int x7), some (.int (if 0 ≤ v2 then (0 : Int32) else 1))]) rfl).trans ?_
      refine (rn_inc d_M_safe_120 rfl (c := (-1)) (by decide) (ls' := [some (.ref 123), some (.int x1), some (.int x2), some (.int x3), some (.int x4), some (.int (x5 ||| (if (if 0 ≤ v2 then (0 : Int32) else 1) = 0 then (0 : Int32) else ((1 : Int32) <<< (x7 &&& 31))))), some (.int x6), some (.int (x7 + (-1))), some (.int (if 0 ≤ v2 then (0 : Int32) else 1))]) rfl).trans ?_
      refine (rn_goto d_M_safe_123 (t := 52) (by decide)).trans ?_
      rfl
    · refine (rn_ld d_M_safe_103 rfl rfl rfl rfl).trans ?_
      refine (rn_ld d_M_safe_104 rfl rfl rfl rfl).trans ?_
      refine (rn_vI d_M_safe_105 (zinv_v l_4_97 (by decide) (Nat.le_of_ble_eq_true rfl) rfl rfl zc_123 (Nat.le_of_ble_eq_true rfl)) (Nat.le_of_ble_eq_true rfl) (Or.inl rfl)).trans (zbI_congr fun v6 h5 => ?_)
      refine Eq.trans (b := zrn X 4 m_M_safe 118 [some (.ref 123), some (.int x1), some (.int x2), some (.int x3), some (.int x4), some (.int (x5 ||| (if (if 0 ≤ v2 then (0 : Int32) else 1) = 0 then (0 : Int32) else ((1 : Int32) <<< (x7 &&& 31))))), some (.int x6), some (.int x7), some (.int (if 0 ≤ v2 then (0 : Int32) else 1))] [.int (if v6 < 0 then x6 else x7)] h5) ?_ ?_
      · refine (rn_if_lt d_M_safe_108 (t := 116) (by decide)).trans ?_
        by_cases q7 : v6 < 0
        · simp only [if_pos q7]
          refine (rn_ld d_M_safe_116 rfl rfl rfl rfl).trans ?_
          all_goals rfl
        · simp only [if_neg q7]
          refine (rn_ld d_M_safe_111 rfl rfl rfl rfl).trans ?_
          refine (rn_goto d_M_safe_113 (t := 118) (by decide)).trans ?_
          all_goals rfl
      refine (rn_st d_M_safe_118 rfl rfl rfl (by decide) rfl (Nat.le_of_ble_eq_true rfl) (ls' := [some (.ref 123), some (.int x1), some (.int x2), some (.int x3), some (.int x4), some (.int (x5 ||| (if (if 0 ≤ v2 then (0 : Int32) else 1) = 0 then (0 : Int32) else ((1 : Int32) <<< (x7 &&& 31))))), some (.int (if v6 < 0 then x6 else x7)), some (.int x7), some (.int (if 0 ≤ v2 then (0 : Int32) else 1))]) rfl).trans ?_
      refine (rn_inc d_M_safe_120 rfl (c := (-1)) (by decide) (ls' := [some (.ref 123), some (.int x1), some (.int x2), some (.int x3), some (.int x4), some (.int (x5 ||| (if (if 0 ≤ v2 then (0 : Int32) else 1) = 0 then (0 : Int32) else ((1 : Int32) <<< (x7 &&& 31))))), some (.int (if v6 < 0 then x6 else x7)), some (.int (x7 + (-1))), some (.int (if 0 ≤ v2 then (0 : Int32) else 1))]) rfl).trans ?_
      refine (rn_goto d_M_safe_123 (t := 52) (by decide)).trans ?_
      rfl
theorem e_M_safe {X : zX} {x1 : Int32} {x2 : Int32} {h : zH} : zcf X m_M_safe [.ref 123, .int x1, .int x2] h = (zbI (zcf X m_M_isOne [.ref 123, .int x1] ((zup h.1 123 7 0), h.2)) fun v2 h1 => (zbI (zcf X m_M_wrongBit [.int (if v2 = 0 then (-1 : Int32) else 0), .int x2, .int 1] h1) fun v5 h4 => (if 0 ≤ v5 then (if zin x1 7 = true then zrn X 4 m_M_safe 52 [some (.ref 123), some (.int x1), some (.int x2), some (.int v5), some (.int (h4.1 127 (Int32.toNatClampNeg x1))), some (.int 0), some (.int (-9)), some (.int 3), none] [] h4 else none) else (zbI (zcf X m_M_refuse [.ref 123, .int v5] h4) fun v7 h6 => (some (some (.int v7), h6)))))) := by
  refine (zcf_run (Nat.le_of_ble_eq_true rfl)).trans ?_
  show zrn X 4 m_M_safe 0 [some (.ref 123), some (.int x1), some (.int x2), none, none, none, none, none, none] [] h = _
  refine (rn_ld d_M_safe_0 rfl rfl rfl rfl).trans ?_
  refine (rn_push d_M_safe_1 zcs_iconst_0).trans ?_
  refine (rn_pi d_M_safe_2 f_4_61 zc_123).trans ?_
  refine (rn_ld d_M_safe_5 rfl rfl rfl rfl).trans ?_
  refine (rn_ld d_M_safe_6 rfl rfl rfl rfl).trans ?_
  refine (rn_vI d_M_safe_7 (zinv_v l_4_72 (by decide) (Nat.le_of_ble_eq_true rfl) rfl rfl zc_123 (Nat.le_of_ble_eq_true rfl)) (Nat.le_of_ble_eq_true rfl) (Or.inr rfl)).trans (zbI_congr fun v2 h1 => ?_)
  refine Eq.trans (b := zrn X 4 m_M_safe 18 [some (.ref 123), some (.int x1), some (.int x2), none, none, none, none, none, none] [.int (if v2 = 0 then (-1 : Int32) else 0)] h1) ?_ ?_
  · refine (rn_if_eq d_M_safe_10 (t := 17) (by decide)).trans ?_
    by_cases q3 : v2 = 0
    · simp only [if_pos q3]
      refine (rn_push d_M_safe_17 zcs_iconst_m1).trans ?_
      all_goals rfl
    · simp only [if_neg q3]
      refine (rn_push d_M_safe_13 zcs_iconst_0).trans ?_
      refine (rn_goto d_M_safe_14 (t := 18) (by decide)).trans ?_
      all_goals rfl
  refine (rn_ld d_M_safe_18 rfl rfl rfl rfl).trans ?_
  refine (rn_push d_M_safe_19 zcs_iconst_1).trans ?_
  refine (rn_sI d_M_safe_20 nb_4_215 (zinv_s l_4_215 (by decide) (Nat.le_of_ble_eq_true rfl) rfl rfl (Nat.le_of_ble_eq_true rfl)) (Nat.le_of_ble_eq_true rfl) (Or.inl rfl)).trans (zbI_congr fun v5 h4 => ?_)
  refine (rn_st d_M_safe_23 rfl rfl rfl (by decide) rfl (Nat.le_of_ble_eq_true rfl) (ls' := [some (.ref 123), some (.int x1), some (.int x2), some (.int v5), none, none, none, none, none]) rfl).trans ?_
  refine (rn_ld d_M_safe_24 rfl rfl rfl rfl).trans ?_
  refine (rn_if_ge d_M_safe_25 (t := 34) (by decide)).trans (zif ?_ ?_)
  · refine (rn_ld d_M_safe_34 rfl rfl rfl rfl).trans ?_
    refine (rn_gr d_M_safe_35 f_4_19 zc_123 zr_123_4).trans ?_
    refine (rn_ld d_M_safe_38 rfl rfl rfl rfl).trans ?_
    refine (rn_ial d_M_safe_39 (by decide) zc_127).trans (zif ?_ rfl)
    refine (rn_st d_M_safe_40 rfl rfl rfl (by decide) rfl (Nat.le_of_ble_eq_true rfl) (ls' := [some (.ref 123), some (.int x1), some (.int x2), some (.int v5), some (.int (h4.1 127 (Int32.toNatClampNeg x1))), none, none, none, none]) rfl).trans ?_
    refine (rn_push d_M_safe_42 zcs_iconst_0).trans ?_
    refine (rn_st d_M_safe_43 rfl rfl rfl (by decide) rfl (Nat.le_of_ble_eq_true rfl) (ls' := [some (.ref 123), some (.int x1), some (.int x2), some (.int v5), some (.int (h4.1 127 (Int32.toNatClampNeg x1))), some (.int 0), none, none, none]) rfl).trans ?_
    refine (rn_push d_M_safe_45 zcs_bipush_m9).trans ?_
    refine (rn_st d_M_safe_47 rfl rfl rfl (by decide) rfl (Nat.le_of_ble_eq_true rfl) (ls' := [some (.ref 123), some (.int x1), some (.int x2), some (.int v5), some (.int (h4.1 127 (Int32.toNatClampNeg x1))), some (.int 0), some (.int (-9)), none, none]) rfl).trans ?_
    refine (rn_push d_M_safe_49 zcs_iconst_3).trans ?_
    refine (rn_st d_M_safe_50 rfl rfl rfl (by decide) rfl (Nat.le_of_ble_eq_true rfl) (ls' := [some (.ref 123), some (.int x1), some (.int x2), some (.int v5), some (.int (h4.1 127 (Int32.toNatClampNeg x1))), some (.int 0), some (.int (-9)), some (.int 3), none]) rfl).trans ?_
    rfl
  · refine (rn_ld d_M_safe_28 rfl rfl rfl rfl).trans ?_
    refine (rn_ld d_M_safe_29 rfl rfl rfl rfl).trans ?_
    refine (rn_vI d_M_safe_30 (zinv_v l_4_123 (by decide) (Nat.le_of_ble_eq_true rfl) rfl rfl zc_123 (Nat.le_of_ble_eq_true rfl)) (Nat.le_of_ble_eq_true rfl) (Or.inl rfl)).trans (zbI_congr fun v7 h6 => ?_)
    exact rn_ri d_M_safe_33 rfl
theorem b_M_alone_53 {X : zX} {x1 : Int32} {x2 : Int32} {x3 : Int32} {x4 : Int32} {x5 : Int32} {x6 : Int32} {x7 : Int32} {g8 : Option Value} {h : zH} : zrn X 5 m_M_alone 53 [some (.ref 123), some (.int x1), some (.int x2), some (.int x3), some (.int x4), some (.int x5), some (.int x6), some (.int x7), g8] [] h = (if x7 < 0 then (if zin x1 7 = true then (if x2 = 0 then (some (some (.int x5), ((zup h.1 126 (Int32.toNatClampNeg x1) x4), h.2))) else (some (some (.int x6), ((zup h.1 126 (Int32.toNatClampNeg x1) x4), h.2)))) else none) else (if zin x1 7 = true then (zbI (zcf X m_M_oneIn [.ref 123, .int x7] ((zup h.1 126 (Int32.toNatClampNeg x1) x4), h.2)) fun v2 h1 => (if 0 ≤ v2 then zrn X 5 m_M_alone 53 [some (.ref 123), some (.int x1), some (.int x2), some (.int x3), some (.int x4), some (.int x5), some (.int x6), some (.int (x7 + (-1))), g8] [] h1 else (if zin x1 7 = true then (zbI (zcf X m_M_watchersOf [.ref 123, .int x1] ((zup h1.1 126 (Int32.toNatClampNeg x1) x7), h1.2)) fun v4 h3 => (if v4 = 0 then (zbI (zcf X m_M_lensOf [.ref 123, .int x1] h3) fun v6 h5 => zrn X 5 m_M_alone 53 [some (.ref 123), some (.int x1), some (.int x2), some (.int x3), some (.int x4), some (.int (x5 + (if (if 0 ≤ v6 then (0 : Int32) else 1) = 0 then (0 : Int32) else 1))), some (.int (if (if 0 ≤ v6 then (0 : Int32) else 1) = 0 then x6 else x7)), some (.int (x7 + (-1))), some (.int (if 0 ≤ v6 then (0 : Int32) else 1))] [] h5) else zrn X 5 m_M_alone 53 [some (.ref 123), some (.int x1), some (.int x2), some (.int x3), some (.int x4), some (.int (x5 + 0)), some (.int x6), some (.int (x7 + (-1))), some (.int 0)] [] h3)) else none))) else none)) := by
  refine (rn_ld d_M_alone_53 rfl rfl rfl rfl).trans ?_
  refine (rn_if_lt d_M_alone_55 (t := 141) (by decide)).trans (zif ?_ ?_)
  · refine (rn_ld d_M_alone_141 rfl rfl rfl rfl).trans ?_
    refine (rn_gr d_M_alone_142 f_4_16 zc_123 zr_123_3).trans ?_
    refine (rn_ld d_M_alone_145 rfl rfl rfl rfl).trans ?_
    refine (rn_ld d_M_alone_146 rfl rfl rfl rfl).trans ?_
    refine (rn_ias d_M_alone_148 zc_126).trans (zif ?_ rfl)
    refine (rn_ld d_M_alone_149 rfl rfl rfl rfl).trans ?_
    refine (rn_if_ne d_M_alone_150 (t := 158) (by decide)).trans (zif ?_ ?_)
    · refine (rn_ld d_M_alone_153 rfl rfl rfl rfl).trans ?_
      refine (rn_goto d_M_alone_155 (t := 160) (by decide)).trans ?_
      exact rn_ri d_M_alone_160 rfl
    · refine (rn_ld d_M_alone_158 rfl rfl rfl rfl).trans ?_
      exact rn_ri d_M_alone_160 rfl
  · refine (rn_ld d_M_alone_58 rfl rfl rfl rfl).trans ?_
    refine (rn_gr d_M_alone_59 f_4_16 zc_123 zr_123_3).trans ?_
    refine (rn_ld d_M_alone_62 rfl rfl rfl rfl).trans ?_
    refine (rn_ld d_M_alone_63 rfl rfl rfl rfl).trans ?_
    refine (rn_ias d_M_alone_65 zc_126).trans (zif ?_ rfl)
    refine (rn_ld d_M_alone_66 rfl rfl rfl rfl).trans ?_
    refine (rn_ld d_M_alone_67 rfl rfl rfl rfl).trans ?_
    refine (rn_vI d_M_alone_69 (zinv_v l_4_84 (by decide) (Nat.le_of_ble_eq_true rfl) rfl rfl zc_123 (Nat.le_of_ble_eq_true rfl)) (Nat.le_of_ble_eq_true rfl) (Or.inl rfl)).trans (zbI_congr fun v2 h1 => ?_)
    refine (rn_if_ge d_M_alone_72 (t := 135) (by decide)).trans (zif ?_ ?_)
    · refine (rn_inc d_M_alone_135 rfl (c := (-1)) (by decide) (ls' := [some (.ref 123), some (.int x1), some (.int x2), some (.int x3), some (.int x4), some (.int x5), some (.int x6), some (.int (x7 + (-1))), g8]) rfl).trans ?_
      refine (rn_goto d_M_alone_138 (t := 53) (by decide)).trans ?_
      rfl
    · refine (rn_ld d_M_alone_75 rfl rfl rfl rfl).trans ?_
      refine (rn_gr d_M_alone_76 f_4_16 zc_123 zr_123_3).trans ?_
      refine (rn_ld d_M_alone_79 rfl rfl rfl rfl).trans ?_
      refine (rn_ld d_M_alone_80 rfl rfl rfl rfl).trans ?_
      refine (rn_ias d_M_alone_82 zc_126).trans (zif ?_ rfl)
      refine (rn_ld d_M_alone_83 rfl rfl rfl rfl).trans ?_
      refine (rn_ld d_M_alone_84 rfl rfl rfl rfl).trans ?_
      refine (rn_vI d_M_alone_85 (zinv_v l_4_218 (by decide) (Nat.le_of_ble_eq_true rfl) rfl rfl zc_123 (Nat.le_of_ble_eq_true rfl)) (Nat.le_of_ble_eq_true rfl) (Or.inl rfl)).trans (zbI_congr fun v4 h3 => ?_)
      refine (rn_if_ne d_M_alone_88 (t := 103) (by decide)).trans (zif ?_ ?_)
      · refine (rn_ld d_M_alone_91 rfl rfl rfl rfl).trans ?_
        refine (rn_ld d_M_alone_92 rfl rfl rfl rfl).trans ?_
        refine (rn_vI d_M_alone_93 (zinv_v l_4_113 (by decide) (Nat.le_of_ble_eq_true rfl) rfl rfl zc_123 (Nat.le_of_ble_eq_true rfl)) (Nat.le_of_ble_eq_true rfl) (Or.inl rfl)).trans (zbI_congr fun v6 h5 => ?_)
        refine Eq.trans (b := zrn X 5 m_M_alone 104 [some (.ref 123), some (.int x1), some (.int x2), some (.int x3), some (.int x4), some (.int x5), some (.int x6), some (.int x7), g8] [.int (if 0 ≤ v6 then (0 : Int32) else 1)] h5) ?_ ?_
        · refine (rn_if_ge d_M_alone_96 (t := 103) (by decide)).trans ?_
          by_cases q7 : 0 ≤ v6
          · simp only [if_pos q7]
            refine (rn_push d_M_alone_103 zcs_iconst_0).trans ?_
            all_goals rfl
          · simp only [if_neg q7]
            refine (rn_push d_M_alone_99 zcs_iconst_1).trans ?_
            refine (rn_goto d_M_alone_100 (t := 104) (by decide)).trans ?_
            all_goals rfl
        refine (rn_st d_M_alone_104 rfl rfl rfl (by decide) rfl (Nat.le_of_ble_eq_true rfl) (ls' := [some (.ref 123), some (.int x1), some (.int x2), some (.int x3), some (.int x4), some (.int x5), some (.int x6), some (.int x7), some (.int (if 0 ≤ v6 then (0 : Int32) else 1))]) rfl).trans ?_
        refine (rn_ld d_M_alone_106 rfl rfl rfl rfl).trans ?_
        refine (rn_ld d_M_alone_108 rfl rfl rfl rfl).trans ?_
        refine Eq.trans (b := zrn X 5 m_M_alone 118 [some (.ref 123), some (.int x1), some (.int x2), some (.int x3), some (.int x4), some (.int x5), some (.int x6), some (.int x7), some (.int (if 0 ≤ v6 then (0 : Int32) else 1))] [.int (if (if 0 ≤ v6 then (0 : Int32) else 1) = 0 then (0 : Int32) else 1), .int x5] h5) ?_ ?_
        · refine (rn_if_eq d_M_alone_110 (t := 117) (by decide)).trans ?_
          by_cases q8 : (if 0 ≤ v6 then (0 : Int32) else 1) = 0
          · simp only [if_pos q8]
            refine (rn_push d_M_alone_117 zcs_iconst_0).trans ?_
            all_goals rfl
          · simp only [if_neg q8]
            refine (rn_push d_M_alone_113 zcs_iconst_1).trans ?_
            refine (rn_goto d_M_alone_114 (t := 118) (by decide)).trans ?_
            all_goals rfl
        refine (rn_a2 d_M_alone_118 rfl).trans ?_
        refine (rn_st d_M_alone_119 rfl rfl rfl (by decide) rfl (Nat.le_of_ble_eq_true rfl) (ls' := [some (.ref 123), some (.int x1), some (.int x2), some (.int x3), some (.int x4), some (.int (x5 + (if (if 0 ≤ v6 then (0 : Int32) else 1) = 0 then (0 : Int32) else 1))), some (.int x6), some (.int x7), some (.int (if 0 ≤ v6 then (0 : Int32) else 1))]) rfl).trans ?_
        refine (rn_ld d_M_alone_121 rfl rfl rfl rfl).trans ?_
        refine Eq.trans (b := zrn X 5 m_M_alone 133 [some (.ref 123), some (.int x1), some (.int x2), some (.int x3), some (.int x4), some (.int (x5 + (if (if 0 ≤ v6 then (0 : Int32) else 1) = 0 then (0 : Int32) else 1))), some (.int x6), some (.int x7), some (.int (if 0 ≤ v6 then (0 : Int32) else 1))] [.int (if (if 0 ≤ v6 then (0 : Int32) else 1) = 0 then x6 else x7)] h5) ?_ ?_
        · refine (rn_if_eq d_M_alone_123 (t := 131) (by decide)).trans ?_
          by_cases q9 : (if 0 ≤ v6 then (0 : Int32) else 1) = 0
          · simp only [if_pos q9]
            refine (rn_ld d_M_alone_131 rfl rfl rfl rfl).trans ?_
            all_goals rfl
          · simp only [if_neg q9]
            refine (rn_ld d_M_alone_126 rfl rfl rfl rfl).trans ?_
            refine (rn_goto d_M_alone_128 (t := 133) (by decide)).trans ?_
            all_goals rfl
        refine (rn_st d_M_alone_133 rfl rfl rfl (by decide) rfl (Nat.le_of_ble_eq_true rfl) (ls' := [some (.ref 123), some (.int x1), some (.int x2), some (.int x3), some (.int x4), some (.int (x5 + (if (if 0 ≤ v6 then (0 : Int32) else 1) = 0 then (0 : Int32) else 1))), some (.int (if (if 0 ≤ v6 then (0 : Int32) else 1) = 0 then x6 else x7)), some (.int x7), some (.int (if 0 ≤ v6 then (0 : Int32) else 1))]) rfl).trans ?_
        refine (rn_inc d_M_alone_135 rfl (c := (-1)) (by decide) (ls' := [some (.ref 123), some (.int x1), some (.int x2), some (.int x3), some (.int x4), some (.int (x5 + (if (if 0 ≤ v6 then (0 : Int32) else 1) = 0 then (0 : Int32) else 1))), some (.int (if (if 0 ≤ v6 then (0 : Int32) else 1) = 0 then x6 else x7)), some (.int (x7 + (-1))), some (.int (if 0 ≤ v6 then (0 : Int32) else 1))]) rfl).trans ?_
        refine (rn_goto d_M_alone_138 (t := 53) (by decide)).trans ?_
        rfl
      · refine (rn_push d_M_alone_103 zcs_iconst_0).trans ?_
        refine (rn_st d_M_alone_104 rfl rfl rfl (by decide) rfl (Nat.le_of_ble_eq_true rfl) (ls' := [some (.ref 123), some (.int x1), some (.int x2), some (.int x3), some (.int x4), some (.int x5), some (.int x6), some (.int x7), some (.int 0)]) rfl).trans ?_
        refine (rn_ld d_M_alone_106 rfl rfl rfl rfl).trans ?_
        refine (rn_ld d_M_alone_108 rfl rfl rfl rfl).trans ?_
        refine ((rn_if_eq d_M_alone_110 (t := 117) (by decide)).trans (if_pos (by decide))).trans ?_
        refine (rn_push d_M_alone_117 zcs_iconst_0).trans ?_
        refine (rn_a2 d_M_alone_118 rfl).trans ?_
        refine (rn_st d_M_alone_119 rfl rfl rfl (by decide) rfl (Nat.le_of_ble_eq_true rfl) (ls' := [some (.ref 123), some (.int x1), some (.int x2), some (.int x3), some (.int x4), some (.int (x5 + 0)), some (.int x6), some (.int x7), some (.int 0)]) rfl).trans ?_
        refine (rn_ld d_M_alone_121 rfl rfl rfl rfl).trans ?_
        refine ((rn_if_eq d_M_alone_123 (t := 131) (by decide)).trans (if_pos (by decide))).trans ?_
        refine (rn_ld d_M_alone_131 rfl rfl rfl rfl).trans ?_
        refine (rn_st d_M_alone_133 rfl rfl rfl (by decide) rfl (Nat.le_of_ble_eq_true rfl) (ls' := [some (.ref 123), some (.int x1), some (.int x2), some (.int x3), some (.int x4), some (.int (x5 + 0)), some (.int x6), some (.int x7), some (.int 0)]) rfl).trans ?_
        refine (rn_inc d_M_alone_135 rfl (c := (-1)) (by decide) (ls' := [some (.ref 123), some (.int x1), some (.int x2), some (.int x3), some (.int x4), some (.int (x5 + 0)), some (.int x6), some (.int (x7 + (-1))), some (.int 0)]) rfl).trans ?_
        refine (rn_goto d_M_alone_138 (t := 53) (by decide)).trans ?_
        rfl
theorem e_M_alone {X : zX} {x1 : Int32} {x2 : Int32} {h : zH} : zcf X m_M_alone [.ref 123, .int x1, .int x2] h = (zbI (zcf X m_M_isOne [.ref 123, .int x1] ((zup h.1 123 7 0), h.2)) fun v2 h1 => (zbI (zcf X m_M_wrongBit [.int (if v2 = 0 then (-1 : Int32) else 0), .int x2, .int 1] h1) fun v5 h4 => (if 0 ≤ v5 then (if zin x1 7 = true then zrn X 5 m_M_alone 53 [some (.ref 123), some (.int x1), some (.int x2), some (.int v5), some (.int (h4.1 126 (Int32.toNatClampNeg x1))), some (.int 0), some (.int (-9)), some (.int 35), none] [] h4 else none) else (zbI (zcf X m_M_refuse [.ref 123, .int v5] h4) fun v7 h6 => (some (some (.int v7), h6)))))) := by
  refine (zcf_run (Nat.le_of_ble_eq_true rfl)).trans ?_
  show zrn X 5 m_M_alone 0 [some (.ref 123), some (.int x1), some (.int x2), none, none, none, none, none, none] [] h = _
  refine (rn_ld d_M_alone_0 rfl rfl rfl rfl).trans ?_
  refine (rn_push d_M_alone_1 zcs_iconst_0).trans ?_
  refine (rn_pi d_M_alone_2 f_4_61 zc_123).trans ?_
  refine (rn_ld d_M_alone_5 rfl rfl rfl rfl).trans ?_
  refine (rn_ld d_M_alone_6 rfl rfl rfl rfl).trans ?_
  refine (rn_vI d_M_alone_7 (zinv_v l_4_72 (by decide) (Nat.le_of_ble_eq_true rfl) rfl rfl zc_123 (Nat.le_of_ble_eq_true rfl)) (Nat.le_of_ble_eq_true rfl) (Or.inr rfl)).trans (zbI_congr fun v2 h1 => ?_)
  refine Eq.trans (b := zrn X 5 m_M_alone 18 [some (.ref 123), some (.int x1), some (.int x2), none, none, none, none, none, none] [.int (if v2 = 0 then (-1 : Int32) else 0)] h1) ?_ ?_
  · refine (rn_if_eq d_M_alone_10 (t := 17) (by decide)).trans ?_
    by_cases q3 : v2 = 0
    · simp only [if_pos q3]
      refine (rn_push d_M_alone_17 zcs_iconst_m1).trans ?_
      all_goals rfl
    · simp only [if_neg q3]
      refine (rn_push d_M_alone_13 zcs_iconst_0).trans ?_
      refine (rn_goto d_M_alone_14 (t := 18) (by decide)).trans ?_
      all_goals rfl
  refine (rn_ld d_M_alone_18 rfl rfl rfl rfl).trans ?_
  refine (rn_push d_M_alone_19 zcs_iconst_1).trans ?_
  refine (rn_sI d_M_alone_20 nb_4_215 (zinv_s l_4_215 (by decide) (Nat.le_of_ble_eq_true rfl) rfl rfl (Nat.le_of_ble_eq_true rfl)) (Nat.le_of_ble_eq_true rfl) (Or.inl rfl)).trans (zbI_congr fun v5 h4 => ?_)
  refine (rn_st d_M_alone_23 rfl rfl rfl (by decide) rfl (Nat.le_of_ble_eq_true rfl) (ls' := [some (.ref 123), some (.int x1), some (.int x2), some (.int v5), none, none, none, none, none]) rfl).trans ?_
  refine (rn_ld d_M_alone_24 rfl rfl rfl rfl).trans ?_
  refine (rn_if_ge d_M_alone_25 (t := 34) (by decide)).trans (zif ?_ ?_)
  · refine (rn_ld d_M_alone_34 rfl rfl rfl rfl).trans ?_
    refine (rn_gr d_M_alone_35 f_4_16 zc_123 zr_123_3).trans ?_
    refine (rn_ld d_M_alone_38 rfl rfl rfl rfl).trans ?_
    refine (rn_ial d_M_alone_39 (by decide) zc_126).trans (zif ?_ rfl)
    refine (rn_st d_M_alone_40 rfl rfl rfl (by decide) rfl (Nat.le_of_ble_eq_true rfl) (ls' := [some (.ref 123), some (.int x1), some (.int x2), some (.int v5), some (.int (h4.1 126 (Int32.toNatClampNeg x1))), none, none, none, none]) rfl).trans ?_
    refine (rn_push d_M_alone_42 zcs_iconst_0).trans ?_
    refine (rn_st d_M_alone_43 rfl rfl rfl (by decide) rfl (Nat.le_of_ble_eq_true rfl) (ls' := [some (.ref 123), some (.int x1), some (.int x2), some (.int v5), some (.int (h4.1 126 (Int32.toNatClampNeg x1))), some (.int 0), none, none, none]) rfl).trans ?_
    refine (rn_push d_M_alone_45 zcs_bipush_m9).trans ?_
    refine (rn_st d_M_alone_47 rfl rfl rfl (by decide) rfl (Nat.le_of_ble_eq_true rfl) (ls' := [some (.ref 123), some (.int x1), some (.int x2), some (.int v5), some (.int (h4.1 126 (Int32.toNatClampNeg x1))), some (.int 0), some (.int (-9)), none, none]) rfl).trans ?_
    refine (rn_push d_M_alone_49 zcs_bipush_35).trans ?_
    refine (rn_st d_M_alone_51 rfl rfl rfl (by decide) rfl (Nat.le_of_ble_eq_true rfl) (ls' := [some (.ref 123), some (.int x1), some (.int x2), some (.int v5), some (.int (h4.1 126 (Int32.toNatClampNeg x1))), some (.int 0), some (.int (-9)), some (.int 35), none]) rfl).trans ?_
    rfl
  · refine (rn_ld d_M_alone_28 rfl rfl rfl rfl).trans ?_
    refine (rn_ld d_M_alone_29 rfl rfl rfl rfl).trans ?_
    refine (rn_vI d_M_alone_30 (zinv_v l_4_123 (by decide) (Nat.le_of_ble_eq_true rfl) rfl rfl zc_123 (Nat.le_of_ble_eq_true rfl)) (Nat.le_of_ble_eq_true rfl) (Or.inl rfl)).trans (zbI_congr fun v7 h6 => ?_)
    exact rn_ri d_M_alone_33 rfl
theorem b_M_turnAll_9 {X : zX} {x1 : Int32} {x2 : Int32} {g3 : Option Value} {g4 : Option Value} {h : zH} : zrn X 4 m_M_turnAll 9 [some (.ref 123), some (.int x1), some (.int x2), g3, g4] [] h = (if (h.1 123 0) ≤ x2 then (some (some (.int x1), h)) else (zbI (zcf X m_M_aheadOf [.ref 123, .int x2] h) fun v2 h1 => (if v2 < 0 then zrn X 4 m_M_turnAll 9 [some (.ref 123), some (.int x1), some (.int (x2 + 1)), g3, g4] [] h1 else zrn X 4 m_M_turnAll 30 [some (.ref 123), some (.int x1), some (.int x2), some (.int 0), some (.int 0)] [] h1))) := by
  refine (rn_ld d_M_turnAll_9 rfl rfl rfl rfl).trans ?_
  refine (rn_ld d_M_turnAll_10 rfl rfl rfl rfl).trans ?_
  refine (rn_gi d_M_turnAll_11 f_4_65 zc_123).trans ?_
  refine (rn_ic_ge d_M_turnAll_14 (t := 88) (by decide)).trans (zif ?_ ?_)
  · refine (rn_ld d_M_turnAll_88 rfl rfl rfl rfl).trans ?_
    exact rn_ri d_M_turnAll_89 rfl
  · refine (rn_ld d_M_turnAll_17 rfl rfl rfl rfl).trans ?_
    refine (rn_ld d_M_turnAll_18 rfl rfl rfl rfl).trans ?_
    refine (rn_vI d_M_turnAll_19 (zinv_v l_4_97 (by decide) (Nat.le_of_ble_eq_true rfl) rfl rfl zc_123 (Nat.le_of_ble_eq_true rfl)) (Nat.le_of_ble_eq_true rfl) (Or.inl rfl)).trans (zbI_congr fun v2 h1 => ?_)
    refine (rn_if_lt d_M_turnAll_22 (t := 82) (by decide)).trans (zif ?_ ?_)
    · refine (rn_inc d_M_turnAll_82 rfl (c := 1) (by decide) (ls' := [some (.ref 123), some (.int x1), some (.int (x2 + 1)), g3, g4]) rfl).trans ?_
      refine (rn_goto d_M_turnAll_85 (t := 9) (by decide)).trans ?_
      rfl
    · refine (rn_push d_M_turnAll_25 zcs_iconst_0).trans ?_
      refine (rn_st d_M_turnAll_26 rfl rfl rfl (by decide) rfl (Nat.le_of_ble_eq_true rfl) (ls' := [some (.ref 123), some (.int x1), some (.int x2), some (.int 0), g4]) rfl).trans ?_
      refine (rn_push d_M_turnAll_27 zcs_iconst_0).trans ?_
      refine (rn_st d_M_turnAll_28 rfl rfl rfl (by decide) rfl (Nat.le_of_ble_eq_true rfl) (ls' := [some (.ref 123), some (.int x1), some (.int x2), some (.int 0), some (.int 0)]) rfl).trans ?_
      rfl
theorem b_M_turnAll_30 {X : zX} {x1 : Int32} {x2 : Int32} {x3 : Int32} {x4 : Int32} {h : zH} : zrn X 4 m_M_turnAll 30 [some (.ref 123), some (.int x1), some (.int x2), some (.int x3), some (.int x4)] [] h = (if 4 ≤ x4 then (if x3 = 0 then (some (some (.int (-9)), h)) else zrn X 4 m_M_turnAll 9 [some (.ref 123), some (.int (x1 + 1)), some (.int (x2 + 1)), some (.int x3), some (.int x4)] [] h) else (if x3 = 0 then (if zin x2 7 = true then (zbI (zcf X m_M_reachOf [.ref 123, .int x2] h) fun v2 h1 => (zbI (zcf X m_M_nextFrom [.ref 123, .int (h.1 126 (Int32.toNatClampNeg x2)), .int x4, .int v2] h1) fun v4 h3 => zrn X 4 m_M_turnAll 30 [some (.ref 123), some (.int x1), some (.int x2), some (.int (if 0 ≤ v4 then (0 : Int32) else 1)), some (.int (x4 + 1))] [] h3)) else none) else zrn X 4 m_M_turnAll 30 [some (.ref 123), some (.int x1), some (.int x2), some (.int 1), some (.int (x4 + 1))] [] h)) := by
  refine (rn_ld d_M_turnAll_30 rfl rfl rfl rfl).trans ?_
  refine (rn_push d_M_turnAll_32 zcs_iconst_4).trans ?_
  refine (rn_ic_ge d_M_turnAll_33 (t := 72) (by decide)).trans (zif ?_ ?_)
  · refine (rn_ld d_M_turnAll_72 rfl rfl rfl rfl).trans ?_
    refine (rn_if_ne d_M_turnAll_73 (t := 79) (by decide)).trans (zif ?_ ?_)
    · refine (rn_push d_M_turnAll_76 zcs_bipush_m9).trans ?_
      exact rn_ri d_M_turnAll_78 rfl
    · refine (rn_inc d_M_turnAll_79 rfl (c := 1) (by decide) (ls' := [some (.ref 123), some (.int (x1 + 1)), some (.int x2), some (.int x3), some (.int x4)]) rfl).trans ?_
      refine (rn_inc d_M_turnAll_82 rfl (c := 1) (by decide) (ls' := [some (.ref 123), some (.int (x1 + 1)), some (.int (x2 + 1)), some (.int x3), some (.int x4)]) rfl).trans ?_
      refine (rn_goto d_M_turnAll_85 (t := 9) (by decide)).trans ?_
      rfl
  · refine (rn_ld d_M_turnAll_36 rfl rfl rfl rfl).trans ?_
    refine (rn_if_ne d_M_turnAll_37 (t := 60) (by decide)).trans (zif ?_ ?_)
    · refine (rn_ld d_M_turnAll_40 rfl rfl rfl rfl).trans ?_
      refine (rn_ld d_M_turnAll_41 rfl rfl rfl rfl).trans ?_
      refine (rn_gr d_M_turnAll_42 f_4_16 zc_123 zr_123_3).trans ?_
      refine (rn_ld d_M_turnAll_45 rfl rfl rfl rfl).trans ?_
      refine (rn_ial d_M_turnAll_46 (by decide) zc_126).trans (zif ?_ rfl)
      refine (rn_ld d_M_turnAll_47 rfl rfl rfl rfl).trans ?_
      refine (rn_ld d_M_turnAll_49 rfl rfl rfl rfl).trans ?_
      refine (rn_ld d_M_turnAll_50 rfl rfl rfl rfl).trans ?_
      refine (rn_vI d_M_turnAll_51 (zinv_v l_4_88 (by decide) (Nat.le_of_ble_eq_true rfl) rfl rfl zc_123 (Nat.le_of_ble_eq_true rfl)) (Nat.le_of_ble_eq_true rfl) (Or.inl rfl)).trans (zbI_congr fun v2 h1 => ?_)
      refine (rn_vI d_M_turnAll_54 (zinv_v l_4_91 (by decide) (Nat.le_of_ble_eq_true rfl) rfl rfl zc_123 (Nat.le_of_ble_eq_true rfl)) (Nat.le_of_ble_eq_true rfl) (Or.inl rfl)).trans (zbI_congr fun v4 h3 => ?_)
      refine Eq.trans (b := zrn X 4 m_M_turnAll 65 [some (.ref 123), some (.int x1), some (.int x2), some (.int x3), some (.int x4)] [.int (if 0 ≤ v4 then (0 : Int32) else 1)] h3) ?_ ?_
      · refine (rn_if_ge d_M_turnAll_57 (t := 64) (by decide)).trans ?_
        by_cases q5 : 0 ≤ v4
        · simp only [if_pos q5]
          refine (rn_push d_M_turnAll_64 zcs_iconst_0).trans ?_
          all_goals rfl
        · simp only [if_neg q5]
          refine (rn_push d_M_turnAll_60 zcs_iconst_1).trans ?_
          refine (rn_goto d_M_turnAll_61 (t := 65) (by decide)).trans ?_
          all_goals rfl
      refine (rn_st d_M_turnAll_65 rfl rfl rfl (by decide) rfl (Nat.le_of_ble_eq_true rfl) (ls' := [some (.ref 123), some (.int x1), some (.int x2), some (.int (if 0 ≤ v4 then (0 : Int32) else 1)), some (.int x4)]) rfl).trans ?_
      refine (rn_inc d_M_turnAll_66 rfl (c := 1) (by decide) (ls' := [some (.ref 123), some (.int x1), some (.int x2), some (.int (if 0 ≤ v4 then (0 : Int32) else 1)), some (.int (x4 + 1))]) rfl).trans ?_
      refine (rn_goto d_M_turnAll_69 (t := 30) (by decide)).trans ?_
      rfl
    · refine (rn_push d_M_turnAll_60 zcs_iconst_1).trans ?_
      refine (rn_goto d_M_turnAll_61 (t := 65) (by decide)).trans ?_
      refine (rn_st d_M_turnAll_65 rfl rfl rfl (by decide) rfl (Nat.le_of_ble_eq_true rfl) (ls' := [some (.ref 123), some (.int x1), some (.int x2), some (.int 1), some (.int x4)]) rfl).trans ?_
      refine (rn_inc d_M_turnAll_66 rfl (c := 1) (by decide) (ls' := [some (.ref 123), some (.int x1), some (.int x2), some (.int 1), some (.int (x4 + 1))]) rfl).trans ?_
      refine (rn_goto d_M_turnAll_69 (t := 30) (by decide)).trans ?_
      rfl
theorem e_M_turnAll {X : zX} {h : zH} : zcf X m_M_turnAll [.ref 123] h = zrn X 4 m_M_turnAll 9 [some (.ref 123), some (.int 0), some (.int 0), none, none] [] ((zup h.1 123 7 0), h.2) := by
  refine (zcf_run (Nat.le_of_ble_eq_true rfl)).trans ?_
  show zrn X 4 m_M_turnAll 0 [some (.ref 123), none, none, none, none] [] h = _
  refine (rn_ld d_M_turnAll_0 rfl rfl rfl rfl).trans ?_
  refine (rn_push d_M_turnAll_1 zcs_iconst_0).trans ?_
  refine (rn_pi d_M_turnAll_2 f_4_61 zc_123).trans ?_
  refine (rn_push d_M_turnAll_5 zcs_iconst_0).trans ?_
  refine (rn_st d_M_turnAll_6 rfl rfl rfl (by decide) rfl (Nat.le_of_ble_eq_true rfl) (ls' := [some (.ref 123), some (.int 0), none, none, none]) rfl).trans ?_
  refine (rn_push d_M_turnAll_7 zcs_iconst_0).trans ?_
  refine (rn_st d_M_turnAll_8 rfl rfl rfl (by decide) rfl (Nat.le_of_ble_eq_true rfl) (ls' := [some (.ref 123), some (.int 0), some (.int 0), none, none]) rfl).trans ?_
  rfl
theorem b_M_post_66 {X : zX} {x1 : Int32} {x2 : Int32} {x3 : Int32} {x4 : Int32} {x5 : Int32} {g6 : Option Value} {h : zH} : zrn X 5 m_M_post 66 [some (.ref 123), some (.int x1), some (.int x2), some (.int x3), some (.int x4), some (.int x5), g6] [] h = (if x5 < 0 then (some (some (.int x3), h)) else (zbI (zcf X m_M_oneIn [.ref 123, .int (x5 / 4)] h) fun v2 h1 => (if 0 ≤ v2 then zrn X 5 m_M_post 66 [some (.ref 123), some (.int x1), some (.int x2), some (.int x3), some (.int x4), some (.int (x5 + (-1))), g6] [] h1 else (zbV (zcf X m_M_oneComes [.ref 123, .int x1, .int 5, .int (x5 / 4), .int (zrem x5 4)] h1) fun h3 => (zbI (zcf X m_M_aheadOf [.ref 123, .int x4] h3) fun v5 h4 => (if v5 < 0 then (zbV (zcf X m_M_again [.ref 123] h4) fun h6 => zrn X 5 m_M_post 66 [some (.ref 123), some (.int x1), some (.int x2), some (.int x3), some (.int x4), some (.int (x5 + (-1))), some (.int 0)] [] h6) else (zbI (zcf X m_M_lensOf [.ref 123, .int x4] h4) fun v8 h7 => (if 0 ≤ v8 then (zbV (zcf X m_M_again [.ref 123] h7) fun h9 => zrn X 5 m_M_post 66 [some (.ref 123), some (.int x1), some (.int x2), some (.int x3), some (.int x4), some (.int (x5 + (-1))), some (.int 0)] [] h9) else (zbI (zcf X m_M_watchersOf [.ref 123, .int x4] h7) fun v11 h10 => (zbV (zcf X m_M_again [.ref 123] h10) fun h14 => zrn X 5 m_M_post 66 [some (.ref 123), some (.int x1), some (.int x2), some (.int (if (if v11 = 0 then (1 : Int32) else 0) = 0 then x3 else ((10 * (x5 / 4)) + (zrem x5 4)))), some (.int x4), some (.int (x5 + (-1))), some (.int (if v11 = 0 then (1 : Int32) else 0))] [] h14)))))))))) := by
  refine (rn_ld d_M_post_66 rfl rfl rfl rfl).trans ?_
  refine (rn_if_lt d_M_post_68 (t := 162) (by decide)).trans (zif ?_ ?_)
  · refine (rn_ld d_M_post_162 rfl rfl rfl rfl).trans ?_
    exact rn_ri d_M_post_163 rfl
  · refine (rn_ld d_M_post_71 rfl rfl rfl rfl).trans ?_
    refine (rn_ld d_M_post_72 rfl rfl rfl rfl).trans ?_
    refine (rn_push d_M_post_74 zcs_iconst_4).trans ?_
    refine (rn_a2 d_M_post_75 (zar_div (by decide))).trans ?_
    refine (rn_vI d_M_post_76 (zinv_v l_4_84 (by decide) (Nat.le_of_ble_eq_true rfl) rfl rfl zc_123 (Nat.le_of_ble_eq_true rfl)) (Nat.le_of_ble_eq_true rfl) (Or.inl rfl)).trans (zbI_congr fun v2 h1 => ?_)
    refine (rn_if_ge d_M_post_79 (t := 156) (by decide)).trans (zif ?_ ?_)
    · refine (rn_inc d_M_post_156 rfl (c := (-1)) (by decide) (ls' := [some (.ref 123), some (.int x1), some (.int x2), some (.int x3), some (.int x4), some (.int (x5 + (-1))), g6]) rfl).trans ?_
      refine (rn_goto d_M_post_159 (t := 66) (by decide)).trans ?_
      rfl
    · refine (rn_ld d_M_post_82 rfl rfl rfl rfl).trans ?_
      refine (rn_ld d_M_post_83 rfl rfl rfl rfl).trans ?_
      refine (rn_push d_M_post_84 zcs_iconst_5).trans ?_
      refine (rn_ld d_M_post_85 rfl rfl rfl rfl).trans ?_
      refine (rn_push d_M_post_87 zcs_iconst_4).trans ?_
      refine (rn_a2 d_M_post_88 (zar_div (by decide))).trans ?_
      refine (rn_ld d_M_post_89 rfl rfl rfl rfl).trans ?_
      refine (rn_push d_M_post_91 zcs_iconst_4).trans ?_
      refine (rn_a2 d_M_post_92 (zar_rem (by decide))).trans ?_
      refine (rn_vV d_M_post_93 (zinv_v l_4_156 (by decide) (Nat.le_of_ble_eq_true rfl) rfl rfl zc_123 (Nat.le_of_ble_eq_true rfl)) (Nat.le_of_ble_eq_true rfl) rfl).trans (zbV_congr fun h3 => ?_)
      refine (rn_ld d_M_post_96 rfl rfl rfl rfl).trans ?_
      refine (rn_ld d_M_post_97 rfl rfl rfl rfl).trans ?_
      refine (rn_vI d_M_post_99 (zinv_v l_4_97 (by decide) (Nat.le_of_ble_eq_true rfl) rfl rfl zc_123 (Nat.le_of_ble_eq_true rfl)) (Nat.le_of_ble_eq_true rfl) (Or.inl rfl)).trans (zbI_congr fun v5 h4 => ?_)
      refine (rn_if_lt d_M_post_102 (t := 127) (by decide)).trans (zif ?_ ?_)
      · refine (rn_push d_M_post_127 zcs_iconst_0).trans ?_
        refine (rn_st d_M_post_128 rfl rfl rfl (by decide) rfl (Nat.le_of_ble_eq_true rfl) (ls' := [some (.ref 123), some (.int x1), some (.int x2), some (.int x3), some (.int x4), some (.int x5), some (.int 0)]) rfl).trans ?_
        refine (rn_ld d_M_post_130 rfl rfl rfl rfl).trans ?_
        refine ((rn_if_eq d_M_post_132 (t := 150) (by decide)).trans (if_pos (by decide))).trans ?_
        refine (rn_ld d_M_post_150 rfl rfl rfl rfl).trans ?_
        refine (rn_st d_M_post_151 rfl rfl rfl (by decide) rfl (Nat.le_of_ble_eq_true rfl) (ls' := [some (.ref 123), some (.int x1), some (.int x2), some (.int x3), some (.int x4), some (.int x5), some (.int 0)]) rfl).trans ?_
        refine (rn_ld d_M_post_152 rfl rfl rfl rfl).trans ?_
        refine (rn_vV d_M_post_153 (zinv_v l_4_174 (by decide) (Nat.le_of_ble_eq_true rfl) rfl rfl zc_123 (Nat.le_of_ble_eq_true rfl)) (Nat.le_of_ble_eq_true rfl) rfl).trans (zbV_congr fun h6 => ?_)
        refine (rn_inc d_M_post_156 rfl (c := (-1)) (by decide) (ls' := [some (.ref 123), some (.int x1), some (.int x2), some (.int x3), some (.int x4), some (.int (x5 + (-1))), some (.int 0)]) rfl).trans ?_
        refine (rn_goto d_M_post_159 (t := 66) (by decide)).trans ?_
        rfl
      · refine (rn_ld d_M_post_105 rfl rfl rfl rfl).trans ?_
        refine (rn_ld d_M_post_106 rfl rfl rfl rfl).trans ?_
        refine (rn_vI d_M_post_108 (zinv_v l_4_113 (by decide) (Nat.le_of_ble_eq_true rfl) rfl rfl zc_123 (Nat.le_of_ble_eq_true rfl)) (Nat.le_of_ble_eq_true rfl) (Or.inl rfl)).trans (zbI_congr fun v8 h7 => ?_)
        refine (rn_if_ge d_M_post_111 (t := 127) (by decide)).trans (zif ?_ ?_)
        · refine (rn_push d_M_post_127 zcs_iconst_0).trans ?_
          refine (rn_st d_M_post_128 rfl rfl rfl (by decide) rfl (Nat.le_of_ble_eq_true rfl) (ls' := [some (.ref 123), some (.int x1), some (.int x2), some (.int x3), some (.int x4), some (.int x5), some (.int 0)]) rfl).trans ?_
          refine (rn_ld d_M_post_130 rfl rfl rfl rfl).trans ?_
          refine ((rn_if_eq d_M_post_132 (t := 150) (by decide)).trans (if_pos (by decide))).trans ?_
          refine (rn_ld d_M_post_150 rfl rfl rfl rfl).trans ?_
          refine (rn_st d_M_post_151 rfl rfl rfl (by decide) rfl (Nat.le_of_ble_eq_true rfl) (ls' := [some (.ref 123), some (.int x1), some (.int x2), some (.int x3), some (.int x4), some (.int x5), some (.int 0)]) rfl).trans ?_
          refine (rn_ld d_M_post_152 rfl rfl rfl rfl).trans ?_
          refine (rn_vV d_M_post_153 (zinv_v l_4_174 (by decide) (Nat.le_of_ble_eq_true rfl) rfl rfl zc_123 (Nat.le_of_ble_eq_true rfl)) (Nat.le_of_ble_eq_true rfl) rfl).trans (zbV_congr fun h9 => ?_)
          refine (rn_inc d_M_post_156 rfl (c := (-1)) (by decide) (ls' := [some (.ref 123), some (.int x1), some (.int x2), some (.int x3), some (.int x4), some (.int (x5 + (-1))), some (.int 0)]) rfl).trans ?_
          refine (rn_goto d_M_post_159 (t := 66) (by decide)).trans ?_
          rfl
        · refine (rn_ld d_M_post_114 rfl rfl rfl rfl).trans ?_
          refine (rn_ld d_M_post_115 rfl rfl rfl rfl).trans ?_
          refine (rn_vI d_M_post_117 (zinv_v l_4_218 (by decide) (Nat.le_of_ble_eq_true rfl) rfl rfl zc_123 (Nat.le_of_ble_eq_true rfl)) (Nat.le_of_ble_eq_true rfl) (Or.inl rfl)).trans (zbI_congr fun v11 h10 => ?_)
          refine Eq.trans (b := zrn X 5 m_M_post 128 [some (.ref 123), some (.int x1), some (.int x2), some (.int x3), some (.int x4), some (.int x5), g6] [.int (if v11 = 0 then (1 : Int32) else 0)] h10) ?_ ?_
          · refine (rn_if_ne d_M_post_120 (t := 127) (by decide)).trans ?_
            by_cases q12 : v11 = 0
            · simp only [if_pos q12]
              refine (rn_push d_M_post_123 zcs_iconst_1).trans ?_
              refine (rn_goto d_M_post_124 (t := 128) (by decide)).trans ?_
              all_goals rfl
            · simp only [if_neg q12]
              refine (rn_push d_M_post_127 zcs_iconst_0).trans ?_
              all_goals rfl
          refine (rn_st d_M_post_128 rfl rfl rfl (by decide) rfl (Nat.le_of_ble_eq_true rfl) (ls' := [some (.ref 123), some (.int x1), some (.int x2), some (.int x3), some (.int x4), some (.int x5), some (.int (if v11 = 0 then (1 : Int32) else 0))]) rfl).trans ?_
          refine (rn_ld d_M_post_130 rfl rfl rfl rfl).trans ?_
          refine Eq.trans (b := zrn X 5 m_M_post 151 [some (.ref 123), some (.int x1), some (.int x2), some (.int x3), some (.int x4), some (.int x5), some (.int (if v11 = 0 then (1 : Int32) else 0))] [.int (if (if v11 = 0 then (1 : Int32) else 0) = 0 then x3 else ((10 * (x5 / 4)) + (zrem x5 4)))] h10) ?_ ?_
          · refine (rn_if_eq d_M_post_132 (t := 150) (by decide)).trans ?_
            by_cases q13 : (if v11 = 0 then (1 : Int32) else 0) = 0
            · simp only [if_pos q13]
              refine (rn_ld d_M_post_150 rfl rfl rfl rfl).trans ?_
              all_goals rfl
            · simp only [if_neg q13]
              refine (rn_push d_M_post_135 zcs_bipush_10).trans ?_
              refine (rn_ld d_M_post_137 rfl rfl rfl rfl).trans ?_
              refine (rn_push d_M_post_139 zcs_iconst_4).trans ?_
              refine (rn_a2 d_M_post_140 (zar_div (by decide))).trans ?_
              refine (rn_a2 d_M_post_141 rfl).trans ?_
              refine (rn_ld d_M_post_142 rfl rfl rfl rfl).trans ?_
              refine (rn_push d_M_post_144 zcs_iconst_4).trans ?_
              refine (rn_a2 d_M_post_145 (zar_rem (by decide))).trans ?_
              refine (rn_a2 d_M_post_146 rfl).trans ?_
              refine (rn_goto d_M_post_147 (t := 151) (by decide)).trans ?_
              all_goals rfl
          refine (rn_st d_M_post_151 rfl rfl rfl (by decide) rfl (Nat.le_of_ble_eq_true rfl) (ls' := [some (.ref 123), some (.int x1), some (.int x2), some (.int (if (if v11 = 0 then (1 : Int32) else 0) = 0 then x3 else ((10 * (x5 / 4)) + (zrem x5 4)))), some (.int x4), some (.int x5), some (.int (if v11 = 0 then (1 : Int32) else 0))]) rfl).trans ?_
          refine (rn_ld d_M_post_152 rfl rfl rfl rfl).trans ?_
          refine (rn_vV d_M_post_153 (zinv_v l_4_174 (by decide) (Nat.le_of_ble_eq_true rfl) rfl rfl zc_123 (Nat.le_of_ble_eq_true rfl)) (Nat.le_of_ble_eq_true rfl) rfl).trans (zbV_congr fun h14 => ?_)
          refine (rn_inc d_M_post_156 rfl (c := (-1)) (by decide) (ls' := [some (.ref 123), some (.int x1), some (.int x2), some (.int (if (if v11 = 0 then (1 : Int32) else 0) = 0 then x3 else ((10 * (x5 / 4)) + (zrem x5 4)))), some (.int x4), some (.int (x5 + (-1))), some (.int (if v11 = 0 then (1 : Int32) else 0))]) rfl).trans ?_
          refine (rn_goto d_M_post_159 (t := 66) (by decide)).trans ?_
          rfl
theorem e_M_post {X : zX} {x1 : Int32} {h : zH} : zcf X m_M_post [.ref 123, .int x1] h = (zbI (zcf X m_M_in [.long (Int32.toInt64 x1), .long 0, .long 5] ((zup h.1 123 7 0), h.2)) fun v2 h1 => (if 0 ≤ (if v2 = 0 then (-2 : Int32) else (if (h1.1 123 0) = 6 then (-3 : Int32) else 0)) then (zbV (zcf X m_M_think [.ref 123] h1) fun h5 => zrn X 5 m_M_post 66 [some (.ref 123), some (.int x1), some (.int (if v2 = 0 then (-2 : Int32) else (if (h1.1 123 0) = 6 then (-3 : Int32) else 0))), some (.int (-9)), some (.int (h1.1 123 0)), some (.int 143), none] [] h5) else (zbI (zcf X m_M_refuse [.ref 123, .int (if v2 = 0 then (-2 : Int32) else (if (h1.1 123 0) = 6 then (-3 : Int32) else 0))] h1) fun v7 h6 => (some (some (.int v7), h6))))) := by
  refine (zcf_run (Nat.le_of_ble_eq_true rfl)).trans ?_
  show zrn X 5 m_M_post 0 [some (.ref 123), some (.int x1), none, none, none, none, none] [] h = _
  refine (rn_ld d_M_post_0 rfl rfl rfl rfl).trans ?_
  refine (rn_push d_M_post_1 zcs_iconst_0).trans ?_
  refine (rn_pi d_M_post_2 f_4_61 zc_123).trans ?_
  refine (rn_ld d_M_post_5 rfl rfl rfl rfl).trans ?_
  refine (rn_i2l d_M_post_6).trans ?_
  refine (rn_push d_M_post_7 zcs_lconst_0).trans ?_
  refine (rn_push d_M_post_8 zcs_ldc2_4_78).trans ?_
  refine (rn_sI d_M_post_11 nb_4_68 (zinv_s l_4_68 (by decide) (Nat.le_of_ble_eq_true rfl) rfl rfl (Nat.le_of_ble_eq_true rfl)) (Nat.le_of_ble_eq_true rfl) (Or.inr rfl)).trans (zbI_congr fun v2 h1 => ?_)
  refine Eq.trans (b := zrn X 5 m_M_post 37 [some (.ref 123), some (.int x1), none, none, none, none, none] [.int (if v2 = 0 then (-2 : Int32) else (if (h1.1 123 0) = 6 then (-3 : Int32) else 0))] h1) ?_ ?_
  · refine (rn_if_ne d_M_post_14 (t := 22) (by decide)).trans ?_
    by_cases q3 : v2 = 0
    · simp only [if_pos q3]
      refine (rn_push d_M_post_17 zcs_bipush_m2).trans ?_
      refine (rn_goto d_M_post_19 (t := 37) (by decide)).trans ?_
      all_goals rfl
    · simp only [if_neg q3]
      refine (rn_ld d_M_post_22 rfl rfl rfl rfl).trans ?_
      refine (rn_gi d_M_post_23 f_4_65 zc_123).trans ?_
      refine (rn_push d_M_post_26 zcs_bipush_6).trans ?_
      refine (rn_ic_ne d_M_post_28 (t := 36) (by decide)).trans ?_
      by_cases q4 : (h1.1 123 0) = 6
      · simp only [if_pos q4]
        refine (rn_push d_M_post_31 zcs_bipush_m3).trans ?_
        refine (rn_goto d_M_post_33 (t := 37) (by decide)).trans ?_
        all_goals rfl
      · simp only [if_neg q4]
        refine (rn_push d_M_post_36 zcs_iconst_0).trans ?_
        all_goals rfl
  refine (rn_st d_M_post_37 rfl rfl rfl (by decide) rfl (Nat.le_of_ble_eq_true rfl) (ls' := [some (.ref 123), some (.int x1), some (.int (if v2 = 0 then (-2 : Int32) else (if (h1.1 123 0) = 6 then (-3 : Int32) else 0))), none, none, none, none]) rfl).trans ?_
  refine (rn_ld d_M_post_38 rfl rfl rfl rfl).trans ?_
  refine (rn_if_ge d_M_post_39 (t := 48) (by decide)).trans (zif ?_ ?_)
  · refine (rn_push d_M_post_48 zcs_bipush_m9).trans ?_
    refine (rn_st d_M_post_50 rfl rfl rfl (by decide) rfl (Nat.le_of_ble_eq_true rfl) (ls' := [some (.ref 123), some (.int x1), some (.int (if v2 = 0 then (-2 : Int32) else (if (h1.1 123 0) = 6 then (-3 : Int32) else 0))), some (.int (-9)), none, none, none]) rfl).trans ?_
    refine (rn_ld d_M_post_51 rfl rfl rfl rfl).trans ?_
    refine (rn_gi d_M_post_52 f_4_65 zc_123).trans ?_
    refine (rn_st d_M_post_55 rfl rfl rfl (by decide) rfl (Nat.le_of_ble_eq_true rfl) (ls' := [some (.ref 123), some (.int x1), some (.int (if v2 = 0 then (-2 : Int32) else (if (h1.1 123 0) = 6 then (-3 : Int32) else 0))), some (.int (-9)), some (.int (h1.1 123 0)), none, none]) rfl).trans ?_
    refine (rn_ld d_M_post_57 rfl rfl rfl rfl).trans ?_
    refine (rn_vV d_M_post_58 (zinv_v l_4_168 (by decide) (Nat.le_of_ble_eq_true rfl) rfl rfl zc_123 (Nat.le_of_ble_eq_true rfl)) (Nat.le_of_ble_eq_true rfl) rfl).trans (zbV_congr fun h5 => ?_)
    refine (rn_push d_M_post_61 zcs_sipush_143).trans ?_
    refine (rn_st d_M_post_64 rfl rfl rfl (by decide) rfl (Nat.le_of_ble_eq_true rfl) (ls' := [some (.ref 123), some (.int x1), some (.int (if v2 = 0 then (-2 : Int32) else (if (h1.1 123 0) = 6 then (-3 : Int32) else 0))), some (.int (-9)), some (.int (h1.1 123 0)), some (.int 143), none]) rfl).trans ?_
    rfl
  · refine (rn_ld d_M_post_42 rfl rfl rfl rfl).trans ?_
    refine (rn_ld d_M_post_43 rfl rfl rfl rfl).trans ?_
    refine (rn_vI d_M_post_44 (zinv_v l_4_123 (by decide) (Nat.le_of_ble_eq_true rfl) rfl rfl zc_123 (Nat.le_of_ble_eq_true rfl)) (Nat.le_of_ble_eq_true rfl) (Or.inl rfl)).trans (zbI_congr fun v7 h6 => ?_)
    exact rn_ri d_M_post_47 rfl
theorem b_M_which_44 {X : zX} {x1 : Int32} {x2 : Int32} {x3 : Int32} {x4 : Int32} {x5 : Int32} {h : zH} : zrn X 7 m_M_which 44 [some (.ref 123), some (.int x1), some (.int x2), some (.int x3), some (.int x4), some (.int x5)] [] h = (if (if x2 = 0 then (6 : Int32) else (if x2 = 1 then (10 : Int32) else 4)) ≤ x5 then (some (some (.int x4), h)) else (if x2 = 0 then (if zin x1 7 = true then (if x2 = 1 then (if zin x1 7 = true then (if x2 = 2 then (if zin x1 7 = true then (zbI (zcf X m_M_isRow [.ref 123, .int x1] ((zup (zup (zup h.1 124 (Int32.toNatClampNeg x1) x5) 125 (Int32.toNatClampNeg x1) x5) 127 (Int32.toNatClampNeg x1) x5), h.2)) fun v4 h3 => zrn X 7 m_M_which 44 [some (.ref 123), some (.int x1), some (.int x2), some (.int x3), some (.int (x4 ||| (if v4 = 0 then (0 : Int32) else ((1 : Int32) <<< (x5 &&& 31))))), some (.int (x5 + 1))] [] h3) else none) else (if zin x1 7 = true then (if zin x1 7 = true then (zbI (zcf X m_M_isRow [.ref 123, .int x1] ((zup (zup (zup h.1 124 (Int32.toNatClampNeg x1) x5) 125 (Int32.toNatClampNeg x1) x5) 127 (Int32.toNatClampNeg x1) ((zup (zup h.1 124 (Int32.toNatClampNeg x1) x5) 125 (Int32.toNatClampNeg x1) x5) 127 (Int32.toNatClampNeg x1))), h.2)) fun v7 h6 => zrn X 7 m_M_which 44 [some (.ref 123), some (.int x1), some (.int x2), some (.int x3), some (.int (x4 ||| (if v7 = 0 then (0 : Int32) else ((1 : Int32) <<< (x5 &&& 31))))), some (.int (x5 + 1))] [] h6) else none) else none)) else none) else (if zin x1 7 = true then (if zin x1 7 = true then (if x2 = 2 then (if zin x1 7 = true then (zbI (zcf X m_M_isRow [.ref 123, .int x1] ((zup (zup (zup h.1 124 (Int32.toNatClampNeg x1) x5) 125 (Int32.toNatClampNeg x1) ((zup h.1 124 (Int32.toNatClampNeg x1) x5) 125 (Int32.toNatClampNeg x1))) 127 (Int32.toNatClampNeg x1) x5), h.2)) fun v10 h9 => zrn X 7 m_M_which 44 [some (.ref 123), some (.int x1), some (.int x2), some (.int x3), some (.int (x4 ||| (if v10 = 0 then (0 : Int32) else ((1 : Int32) <<< (x5 &&& 31))))), some (.int (x5 + 1))] [] h9) else none) else (if zin x1 7 = true then (if zin x1 7 = true then (zbI (zcf X m_M_isRow [.ref 123, .int x1] ((zup (zup (zup h.1 124 (Int32.toNatClampNeg x1) x5) 125 (Int32.toNatClampNeg x1) ((zup h.1 124 (Int32.toNatClampNeg x1) x5) 125 (Int32.toNatClampNeg x1))) 127 (Int32.toNatClampNeg x1) ((zup (zup h.1 124 (Int32.toNatClampNeg x1) x5) 125 (Int32.toNatClampNeg x1) ((zup h.1 124 (Int32.toNatClampNeg x1) x5) 125 (Int32.toNatClampNeg x1))) 127 (Int32.toNatClampNeg x1))), h.2)) fun v13 h12 => zrn X 7 m_M_which 44 [some (.ref 123), some (.int x1), some (.int x2), some (.int x3), some (.int (x4 ||| (if v13 = 0 then (0 : Int32) else ((1 : Int32) <<< (x5 &&& 31))))), some (.int (x5 + 1))] [] h12) else none) else none)) else none) else none)) else none) else (if zin x1 7 = true then (if zin x1 7 = true then (if x2 = 1 then (if zin x1 7 = true then (if x2 = 2 then (if zin x1 7 = true then (zbI (zcf X m_M_isRow [.ref 123, .int x1] ((zup (zup (zup h.1 124 (Int32.toNatClampNeg x1) (h.1 124 (Int32.toNatClampNeg x1))) 125 (Int32.toNatClampNeg x1) x5) 127 (Int32.toNatClampNeg x1) x5), h.2)) fun v16 h15 => zrn X 7 m_M_which 44 [some (.ref 123), some (.int x1), some (.int x2), some (.int x3), some (.int (x4 ||| (if v16 = 0 then (0 : Int32) else ((1 : Int32) <<< (x5 &&& 31))))), some (.int (x5 + 1))] [] h15) else none) else (if zin x1 7 = true then (if zin x1 7 = true then (zbI (zcf X m_M_isRow [.ref 123, .int x1] ((zup (zup (zup h.1 124 (Int32.toNatClampNeg x1) (h.1 124 (Int32.toNatClampNeg x1))) 125 (Int32.toNatClampNeg x1) x5) 127 (Int32.toNatClampNeg x1) ((zup (zup h.1 124 (Int32.toNatClampNeg x1) (h.1 124 (Int32.toNatClampNeg x1))) 125 (Int32.toNatClampNeg x1) x5) 127 (Int32.toNatClampNeg x1))), h.2)) fun v19 h18 => zrn X 7 m_M_which 44 [some (.ref 123), some (.int x1), some (.int x2), some (.int x3), some (.int (x4 ||| (if v19 = 0 then (0 : Int32) else ((1 : Int32) <<< (x5 &&& 31))))), some (.int (x5 + 1))] [] h18) else none) else none)) else none) else (if zin x1 7 = true then (if zin x1 7 = true then (if x2 = 2 then (if zin x1 7 = true then (zbI (zcf X m_M_isRow [.ref 123, .int x1] ((zup (zup (zup h.1 124 (Int32.toNatClampNeg x1) (h.1 124 (Int32.toNatClampNeg x1))) 125 (Int32.toNatClampNeg x1) ((zup h.1 124 (Int32.toNatClampNeg x1) (h.1 124 (Int32.toNatClampNeg x1))) 125 (Int32.toNatClampNeg x1))) 127 (Int32.toNatClampNeg x1) x5), h.2)) fun v22 h21 => zrn X 7 m_M_which 44 [some (.ref 123), some (.int x1), some (.int x2), some (.int x3), some (.int (x4 ||| (if v22 = 0 then (0 : Int32) else ((1 : Int32) <<< (x5 &&& 31))))), some (.int (x5 + 1))] [] h21) else none) else (if zin x1 7 = true then (if zin x1 7 = true then (zbI (zcf X m_M_isRow [.ref 123, .int x1] ((zup (zup (zup h.1 124 (Int32.toNatClampNeg x1) (h.1 124 (Int32.toNatClampNeg x1))) 125 (Int32.toNatClampNeg x1) ((zup h.1 124 (Int32.toNatClampNeg x1) (h.1 124 (Int32.toNatClampNeg x1))) 125 (Int32.toNatClampNeg x1))) 127 (Int32.toNatClampNeg x1) ((zup (zup h.1 124 (Int32.toNatClampNeg x1) (h.1 124 (Int32.toNatClampNeg x1))) 125 (Int32.toNatClampNeg x1) ((zup h.1 124 (Int32.toNatClampNeg x1) (h.1 124 (Int32.toNatClampNeg x1))) 125 (Int32.toNatClampNeg x1))) 127 (Int32.toNatClampNeg x1))), h.2)) fun v25 h24 => zrn X 7 m_M_which 44 [some (.ref 123), some (.int x1), some (.int x2), some (.int x3), some (.int (x4 ||| (if v25 = 0 then (0 : Int32) else ((1 : Int32) <<< (x5 &&& 31))))), some (.int (x5 + 1))] [] h24) else none) else none)) else none) else none)) else none) else none))) := by
  refine (rn_ld d_M_which_44 rfl rfl rfl rfl).trans ?_
  refine (rn_ld d_M_which_46 rfl rfl rfl rfl).trans ?_
  refine Eq.trans (b := zrn X 7 m_M_which 66 [some (.ref 123), some (.int x1), some (.int x2), some (.int x3), some (.int x4), some (.int x5)] [.int (if x2 = 0 then (6 : Int32) else (if x2 = 1 then (10 : Int32) else 4)), .int x5] h) ?_ ?_
  · refine (rn_if_ne d_M_which_47 (t := 55) (by decide)).trans ?_
    by_cases q1 : x2 = 0
    · simp only [if_pos q1]
      refine (rn_push d_M_which_50 zcs_bipush_6).trans ?_
      refine (rn_goto d_M_which_52 (t := 66) (by decide)).trans ?_
      all_goals rfl
    · simp only [if_neg q1]
      refine (rn_ld d_M_which_55 rfl rfl rfl rfl).trans ?_
      refine (rn_push d_M_which_56 zcs_iconst_1).trans ?_
      refine (rn_ic_ne d_M_which_57 (t := 65) (by decide)).trans ?_
      by_cases q2 : x2 = 1
      · simp only [if_pos q2]
        refine (rn_push d_M_which_60 zcs_bipush_10).trans ?_
        refine (rn_goto d_M_which_62 (t := 66) (by decide)).trans ?_
        all_goals rfl
      · simp only [if_neg q2]
        refine (rn_push d_M_which_65 zcs_iconst_4).trans ?_
        all_goals rfl
  refine (rn_ic_ge d_M_which_66 (t := 161) (by decide)).trans (zif ?_ ?_)
  · refine (rn_ld d_M_which_161 rfl rfl rfl rfl).trans ?_
    exact rn_ri d_M_which_163 rfl
  · refine (rn_ld d_M_which_69 rfl rfl rfl rfl).trans ?_
    refine (rn_gr d_M_which_70 f_4_7 zc_123 zr_123_1).trans ?_
    refine (rn_ld d_M_which_73 rfl rfl rfl rfl).trans ?_
    refine (rn_ld d_M_which_74 rfl rfl rfl rfl).trans ?_
    refine (rn_if_ne d_M_which_75 (t := 83) (by decide)).trans (zif ?_ ?_)
    · refine (rn_ld d_M_which_78 rfl rfl rfl rfl).trans ?_
      refine (rn_goto d_M_which_80 (t := 89) (by decide)).trans ?_
      refine (rn_ias d_M_which_89 zc_124).trans (zif ?_ rfl)
      refine (rn_ld d_M_which_90 rfl rfl rfl rfl).trans ?_
      refine (rn_gr d_M_which_91 f_4_13 zc_123 zr_123_2).trans ?_
      refine (rn_ld d_M_which_94 rfl rfl rfl rfl).trans ?_
      refine (rn_ld d_M_which_95 rfl rfl rfl rfl).trans ?_
      refine (rn_push d_M_which_96 zcs_iconst_1).trans ?_
      refine (rn_ic_ne d_M_which_97 (t := 105) (by decide)).trans (zif ?_ ?_)
      · refine (rn_ld d_M_which_100 rfl rfl rfl rfl).trans ?_
        refine (rn_goto d_M_which_102 (t := 111) (by decide)).trans ?_
        refine (rn_ias d_M_which_111 zc_125).trans (zif ?_ rfl)
        refine (rn_ld d_M_which_112 rfl rfl rfl rfl).trans ?_
        refine (rn_gr d_M_which_113 f_4_19 zc_123 zr_123_4).trans ?_
        refine (rn_ld d_M_which_116 rfl rfl rfl rfl).trans ?_
        refine (rn_ld d_M_which_117 rfl rfl rfl rfl).trans ?_
        refine (rn_push d_M_which_118 zcs_iconst_2).trans ?_
        refine (rn_ic_ne d_M_which_119 (t := 127) (by decide)).trans (zif ?_ ?_)
        · refine (rn_ld d_M_which_122 rfl rfl rfl rfl).trans ?_
          refine (rn_goto d_M_which_124 (t := 133) (by decide)).trans ?_
          refine (rn_ias d_M_which_133 zc_127).trans (zif ?_ rfl)
          refine (rn_ld d_M_which_134 rfl rfl rfl rfl).trans ?_
          refine (rn_ld d_M_which_136 rfl rfl rfl rfl).trans ?_
          refine (rn_ld d_M_which_137 rfl rfl rfl rfl).trans ?_
          refine (rn_vI d_M_which_138 (zinv_v l_4_240 (by decide) (Nat.le_of_ble_eq_true rfl) rfl rfl zc_123 (Nat.le_of_ble_eq_true rfl)) (Nat.le_of_ble_eq_true rfl) (Or.inr rfl)).trans (zbI_congr fun v4 h3 => ?_)
          refine Eq.trans (b := zrn X 7 m_M_which 152 [some (.ref 123), some (.int x1), some (.int x2), some (.int x3), some (.int x4), some (.int x5)] [.int (if v4 = 0 then (0 : Int32) else ((1 : Int32) <<< (x5 &&& 31))), .int x4] h3) ?_ ?_
          · refine (rn_if_eq d_M_which_141 (t := 151) (by decide)).trans ?_
            by_cases q5 : v4 = 0
            · simp only [if_pos q5]
              refine (rn_push d_M_which_151 zcs_iconst_0).trans ?_
              all_goals rfl
            · simp only [if_neg q5]
              refine (rn_push d_M_which_144 zcs_iconst_1).trans ?_
              refine (rn_ld d_M_which_145 rfl rfl rfl rfl).trans ?_
              refine (rn_a2 d_M_which_147 rfl).trans ?_
              refine (rn_goto d_M_which_148 (t := 152) (by decide)).trans ?_
              all_goals rfl
          refine (rn_a2 d_M_which_152 rfl).trans ?_
          refine (rn_st d_M_which_153 rfl rfl rfl (by decide) rfl (Nat.le_of_ble_eq_true rfl) (ls' := [some (.ref 123), some (.int x1), some (.int x2), some (.int x3), some (.int (x4 ||| (if v4 = 0 then (0 : Int32) else ((1 : Int32) <<< (x5 &&& 31))))), some (.int x5)]) rfl).trans ?_
          refine (rn_inc d_M_which_155 rfl (c := 1) (by decide) (ls' := [some (.ref 123), some (.int x1), some (.int x2), some (.int x3), some (.int (x4 ||| (if v4 = 0 then (0 : Int32) else ((1 : Int32) <<< (x5 &&& 31))))), some (.int (x5 + 1))]) rfl).trans ?_
          refine (rn_goto d_M_which_158 (t := 44) (by decide)).trans ?_
          rfl
        · refine (rn_ld d_M_which_127 rfl rfl rfl rfl).trans ?_
          refine (rn_gr d_M_which_128 f_4_19 zc_123 zr_123_4).trans ?_
          refine (rn_ld d_M_which_131 rfl rfl rfl rfl).trans ?_
          refine (rn_ial d_M_which_132 (by decide) zc_127).trans (zif ?_ rfl)
          refine (rn_ias d_M_which_133 zc_127).trans (zif ?_ rfl)
          refine (rn_ld d_M_which_134 rfl rfl rfl rfl).trans ?_
          refine (rn_ld d_M_which_136 rfl rfl rfl rfl).trans ?_
          refine (rn_ld d_M_which_137 rfl rfl rfl rfl).trans ?_
          refine (rn_vI d_M_which_138 (zinv_v l_4_240 (by decide) (Nat.le_of_ble_eq_true rfl) rfl rfl zc_123 (Nat.le_of_ble_eq_true rfl)) (Nat.le_of_ble_eq_true rfl) (Or.inr rfl)).trans (zbI_congr fun v7 h6 => ?_)
          refine Eq.trans (b := zrn X 7 m_M_which 152 [some (.ref 123), some (.int x1), some (.int x2), some (.int x3), some (.int x4), some (.int x5)] [.int (if v7 = 0 then (0 : Int32) else ((1 : Int32) <<< (x5 &&& 31))), .int x4] h6) ?_ ?_
          · refine (rn_if_eq d_M_which_141 (t := 151) (by decide)).trans ?_
            by_cases q8 : v7 = 0
            · simp only [if_pos q8]
              refine (rn_push d_M_which_151 zcs_iconst_0).trans ?_
              all_goals rfl
            · simp only [if_neg q8]
              refine (rn_push d_M_which_144 zcs_iconst_1).trans ?_
              refine (rn_ld d_M_which_145 rfl rfl rfl rfl).trans ?_
              refine (rn_a2 d_M_which_147 rfl).trans ?_
              refine (rn_goto d_M_which_148 (t := 152) (by decide)).trans ?_
              all_goals rfl
          refine (rn_a2 d_M_which_152 rfl).trans ?_
          refine (rn_st d_M_which_153 rfl rfl rfl (by decide) rfl (Nat.le_of_ble_eq_true rfl) (ls' := [some (.ref 123), some (.int x1), some (.int x2), some (.int x3), some (.int (x4 ||| (if v7 = 0 then (0 : Int32) else ((1 : Int32) <<< (x5 &&& 31))))), some (.int x5)]) rfl).trans ?_
          refine (rn_inc d_M_which_155 rfl (c := 1) (by decide) (ls' := [some (.ref 123), some (.int x1), some (.int x2), some (.int x3), some (.int (x4 ||| (if v7 = 0 then (0 : Int32) else ((1 : Int32) <<< (x5 &&& 31))))), some (.int (x5 + 1))]) rfl).trans ?_
          refine (rn_goto d_M_which_158 (t := 44) (by decide)).trans ?_
          rfl
      · refine (rn_ld d_M_which_105 rfl rfl rfl rfl).trans ?_
        refine (rn_gr d_M_which_106 f_4_13 zc_123 zr_123_2).trans ?_
        refine (rn_ld d_M_which_109 rfl rfl rfl rfl).trans ?_
        refine (rn_ial d_M_which_110 (by decide) zc_125).trans (zif ?_ rfl)
        refine (rn_ias d_M_which_111 zc_125).trans (zif ?_ rfl)
        refine (rn_ld d_M_which_112 rfl rfl rfl rfl).trans ?_
        refine (rn_gr d_M_which_113 f_4_19 zc_123 zr_123_4).trans ?_
        refine (rn_ld d_M_which_116 rfl rfl rfl rfl).trans ?_
        refine (rn_ld d_M_which_117 rfl rfl rfl rfl).trans ?_
        refine (rn_push d_M_which_118 zcs_iconst_2).trans ?_
        refine (rn_ic_ne d_M_which_119 (t := 127) (by decide)).trans (zif ?_ ?_)
        · refine (rn_ld d_M_which_122 rfl rfl rfl rfl).trans ?_
          refine (rn_goto d_M_which_124 (t := 133) (by decide)).trans ?_
          refine (rn_ias d_M_which_133 zc_127).trans (zif ?_ rfl)
          refine (rn_ld d_M_which_134 rfl rfl rfl rfl).trans ?_
          refine (rn_ld d_M_which_136 rfl rfl rfl rfl).trans ?_
          refine (rn_ld d_M_which_137 rfl rfl rfl rfl).trans ?_
          refine (rn_vI d_M_which_138 (zinv_v l_4_240 (by decide) (Nat.le_of_ble_eq_true rfl) rfl rfl zc_123 (Nat.le_of_ble_eq_true rfl)) (Nat.le_of_ble_eq_true rfl) (Or.inr rfl)).trans (zbI_congr fun v10 h9 => ?_)
          refine Eq.trans (b := zrn X 7 m_M_which 152 [some (.ref 123), some (.int x1), some (.int x2), some (.int x3), some (.int x4), some (.int x5)] [.int (if v10 = 0 then (0 : Int32) else ((1 : Int32) <<< (x5 &&& 31))), .int x4] h9) ?_ ?_
          · refine (rn_if_eq d_M_which_141 (t := 151) (by decide)).trans ?_
            by_cases q11 : v10 = 0
            · simp only [if_pos q11]
              refine (rn_push d_M_which_151 zcs_iconst_0).trans ?_
              all_goals rfl
            · simp only [if_neg q11]
              refine (rn_push d_M_which_144 zcs_iconst_1).trans ?_
              refine (rn_ld d_M_which_145 rfl rfl rfl rfl).trans ?_
              refine (rn_a2 d_M_which_147 rfl).trans ?_
              refine (rn_goto d_M_which_148 (t := 152) (by decide)).trans ?_
              all_goals rfl
          refine (rn_a2 d_M_which_152 rfl).trans ?_
          refine (rn_st d_M_which_153 rfl rfl rfl (by decide) rfl (Nat.le_of_ble_eq_true rfl) (ls' := [some (.ref 123), some (.int x1), some (.int x2), some (.int x3), some (.int (x4 ||| (if v10 = 0 then (0 : Int32) else ((1 : Int32) <<< (x5 &&& 31))))), some (.int x5)]) rfl).trans ?_
          refine (rn_inc d_M_which_155 rfl (c := 1) (by decide) (ls' := [some (.ref 123), some (.int x1), some (.int x2), some (.int x3), some (.int (x4 ||| (if v10 = 0 then (0 : Int32) else ((1 : Int32) <<< (x5 &&& 31))))), some (.int (x5 + 1))]) rfl).trans ?_
          refine (rn_goto d_M_which_158 (t := 44) (by decide)).trans ?_
          rfl
        · refine (rn_ld d_M_which_127 rfl rfl rfl rfl).trans ?_
          refine (rn_gr d_M_which_128 f_4_19 zc_123 zr_123_4).trans ?_
          refine (rn_ld d_M_which_131 rfl rfl rfl rfl).trans ?_
          refine (rn_ial d_M_which_132 (by decide) zc_127).trans (zif ?_ rfl)
          refine (rn_ias d_M_which_133 zc_127).trans (zif ?_ rfl)
          refine (rn_ld d_M_which_134 rfl rfl rfl rfl).trans ?_
          refine (rn_ld d_M_which_136 rfl rfl rfl rfl).trans ?_
          refine (rn_ld d_M_which_137 rfl rfl rfl rfl).trans ?_
          refine (rn_vI d_M_which_138 (zinv_v l_4_240 (by decide) (Nat.le_of_ble_eq_true rfl) rfl rfl zc_123 (Nat.le_of_ble_eq_true rfl)) (Nat.le_of_ble_eq_true rfl) (Or.inr rfl)).trans (zbI_congr fun v13 h12 => ?_)
          refine Eq.trans (b := zrn X 7 m_M_which 152 [some (.ref 123), some (.int x1), some (.int x2), some (.int x3), some (.int x4), some (.int x5)] [.int (if v13 = 0 then (0 : Int32) else ((1 : Int32) <<< (x5 &&& 31))), .int x4] h12) ?_ ?_
          · refine (rn_if_eq d_M_which_141 (t := 151) (by decide)).trans ?_
            by_cases q14 : v13 = 0
            · simp only [if_pos q14]
              refine (rn_push d_M_which_151 zcs_iconst_0).trans ?_
              all_goals rfl
            · simp only [if_neg q14]
              refine (rn_push d_M_which_144 zcs_iconst_1).trans ?_
              refine (rn_ld d_M_which_145 rfl rfl rfl rfl).trans ?_
              refine (rn_a2 d_M_which_147 rfl).trans ?_
              refine (rn_goto d_M_which_148 (t := 152) (by decide)).trans ?_
              all_goals rfl
          refine (rn_a2 d_M_which_152 rfl).trans ?_
          refine (rn_st d_M_which_153 rfl rfl rfl (by decide) rfl (Nat.le_of_ble_eq_true rfl) (ls' := [some (.ref 123), some (.int x1), some (.int x2), some (.int x3), some (.int (x4 ||| (if v13 = 0 then (0 : Int32) else ((1 : Int32) <<< (x5 &&& 31))))), some (.int x5)]) rfl).trans ?_
          refine (rn_inc d_M_which_155 rfl (c := 1) (by decide) (ls' := [some (.ref 123), some (.int x1), some (.int x2), some (.int x3), some (.int (x4 ||| (if v13 = 0 then (0 : Int32) else ((1 : Int32) <<< (x5 &&& 31))))), some (.int (x5 + 1))]) rfl).trans ?_
          refine (rn_goto d_M_which_158 (t := 44) (by decide)).trans ?_
          rfl
    · refine (rn_ld d_M_which_83 rfl rfl rfl rfl).trans ?_
      refine (rn_gr d_M_which_84 f_4_7 zc_123 zr_123_1).trans ?_
      refine (rn_ld d_M_which_87 rfl rfl rfl rfl).trans ?_
      refine (rn_ial d_M_which_88 (by decide) zc_124).trans (zif ?_ rfl)
      refine (rn_ias d_M_which_89 zc_124).trans (zif ?_ rfl)
      refine (rn_ld d_M_which_90 rfl rfl rfl rfl).trans ?_
      refine (rn_gr d_M_which_91 f_4_13 zc_123 zr_123_2).trans ?_
      refine (rn_ld d_M_which_94 rfl rfl rfl rfl).trans ?_
      refine (rn_ld d_M_which_95 rfl rfl rfl rfl).trans ?_
      refine (rn_push d_M_which_96 zcs_iconst_1).trans ?_
      refine (rn_ic_ne d_M_which_97 (t := 105) (by decide)).trans (zif ?_ ?_)
      · refine (rn_ld d_M_which_100 rfl rfl rfl rfl).trans ?_
        refine (rn_goto d_M_which_102 (t := 111) (by decide)).trans ?_
        refine (rn_ias d_M_which_111 zc_125).trans (zif ?_ rfl)
        refine (rn_ld d_M_which_112 rfl rfl rfl rfl).trans ?_
        refine (rn_gr d_M_which_113 f_4_19 zc_123 zr_123_4).trans ?_
        refine (rn_ld d_M_which_116 rfl rfl rfl rfl).trans ?_
        refine (rn_ld d_M_which_117 rfl rfl rfl rfl).trans ?_
        refine (rn_push d_M_which_118 zcs_iconst_2).trans ?_
        refine (rn_ic_ne d_M_which_119 (t := 127) (by decide)).trans (zif ?_ ?_)
        · refine (rn_ld d_M_which_122 rfl rfl rfl rfl).trans ?_
          refine (rn_goto d_M_which_124 (t := 133) (by decide)).trans ?_
          refine (rn_ias d_M_which_133 zc_127).trans (zif ?_ rfl)
          refine (rn_ld d_M_which_134 rfl rfl rfl rfl).trans ?_
          refine (rn_ld d_M_which_136 rfl rfl rfl rfl).trans ?_
          refine (rn_ld d_M_which_137 rfl rfl rfl rfl).trans ?_
          refine (rn_vI d_M_which_138 (zinv_v l_4_240 (by decide) (Nat.le_of_ble_eq_true rfl) rfl rfl zc_123 (Nat.le_of_ble_eq_true rfl)) (Nat.le_of_ble_eq_true rfl) (Or.inr rfl)).trans (zbI_congr fun v16 h15 => ?_)
          refine Eq.trans (b := zrn X 7 m_M_which 152 [some (.ref 123), some (.int x1), some (.int x2), some (.int x3), some (.int x4), some (.int x5)] [.int (if v16 = 0 then (0 : Int32) else ((1 : Int32) <<< (x5 &&& 31))), .int x4] h15) ?_ ?_
          · refine (rn_if_eq d_M_which_141 (t := 151) (by decide)).trans ?_
            by_cases q17 : v16 = 0
            · simp only [if_pos q17]
              refine (rn_push d_M_which_151 zcs_iconst_0).trans ?_
              all_goals rfl
            · simp only [if_neg q17]
              refine (rn_push d_M_which_144 zcs_iconst_1).trans ?_
              refine (rn_ld d_M_which_145 rfl rfl rfl rfl).trans ?_
              refine (rn_a2 d_M_which_147 rfl).trans ?_
              refine (rn_goto d_M_which_148 (t := 152) (by decide)).trans ?_
              all_goals rfl
          refine (rn_a2 d_M_which_152 rfl).trans ?_
          refine (rn_st d_M_which_153 rfl rfl rfl (by decide) rfl (Nat.le_of_ble_eq_true rfl) (ls' := [some (.ref 123), some (.int x1), some (.int x2), some (.int x3), some (.int (x4 ||| (if v16 = 0 then (0 : Int32) else ((1 : Int32) <<< (x5 &&& 31))))), some (.int x5)]) rfl).trans ?_
          refine (rn_inc d_M_which_155 rfl (c := 1) (by decide) (ls' := [some (.ref 123), some (.int x1), some (.int x2), some (.int x3), some (.int (x4 ||| (if v16 = 0 then (0 : Int32) else ((1 : Int32) <<< (x5 &&& 31))))), some (.int (x5 + 1))]) rfl).trans ?_
          refine (rn_goto d_M_which_158 (t := 44) (by decide)).trans ?_
          rfl
        · refine (rn_ld d_M_which_127 rfl rfl rfl rfl).trans ?_
          refine (rn_gr d_M_which_128 f_4_19 zc_123 zr_123_4).trans ?_
          refine (rn_ld d_M_which_131 rfl rfl rfl rfl).trans ?_
          refine (rn_ial d_M_which_132 (by decide) zc_127).trans (zif ?_ rfl)
          refine (rn_ias d_M_which_133 zc_127).trans (zif ?_ rfl)
          refine (rn_ld d_M_which_134 rfl rfl rfl rfl).trans ?_
          refine (rn_ld d_M_which_136 rfl rfl rfl rfl).trans ?_
          refine (rn_ld d_M_which_137 rfl rfl rfl rfl).trans ?_
          refine (rn_vI d_M_which_138 (zinv_v l_4_240 (by decide) (Nat.le_of_ble_eq_true rfl) rfl rfl zc_123 (Nat.le_of_ble_eq_true rfl)) (Nat.le_of_ble_eq_true rfl) (Or.inr rfl)).trans (zbI_congr fun v19 h18 => ?_)
          refine Eq.trans (b := zrn X 7 m_M_which 152 [some (.ref 123), some (.int x1), some (.int x2), some (.int x3), some (.int x4), some (.int x5)] [.int (if v19 = 0 then (0 : Int32) else ((1 : Int32) <<< (x5 &&& 31))), .int x4] h18) ?_ ?_
          · refine (rn_if_eq d_M_which_141 (t := 151) (by decide)).trans ?_
            by_cases q20 : v19 = 0
            · simp only [if_pos q20]
              refine (rn_push d_M_which_151 zcs_iconst_0).trans ?_
              all_goals rfl
            · simp only [if_neg q20]
              refine (rn_push d_M_which_144 zcs_iconst_1).trans ?_
              refine (rn_ld d_M_which_145 rfl rfl rfl rfl).trans ?_
              refine (rn_a2 d_M_which_147 rfl).trans ?_
              refine (rn_goto d_M_which_148 (t := 152) (by decide)).trans ?_
              all_goals rfl
          refine (rn_a2 d_M_which_152 rfl).trans ?_
          refine (rn_st d_M_which_153 rfl rfl rfl (by decide) rfl (Nat.le_of_ble_eq_true rfl) (ls' := [some (.ref 123), some (.int x1), some (.int x2), some (.int x3), some (.int (x4 ||| (if v19 = 0 then (0 : Int32) else ((1 : Int32) <<< (x5 &&& 31))))), some (.int x5)]) rfl).trans ?_
          refine (rn_inc d_M_which_155 rfl (c := 1) (by decide) (ls' := [some (.ref 123), some (.int x1), some (.int x2), some (.int x3), some (.int (x4 ||| (if v19 = 0 then (0 : Int32) else ((1 : Int32) <<< (x5 &&& 31))))), some (.int (x5 + 1))]) rfl).trans ?_
          refine (rn_goto d_M_which_158 (t := 44) (by decide)).trans ?_
          rfl
      · refine (rn_ld d_M_which_105 rfl rfl rfl rfl).trans ?_
        refine (rn_gr d_M_which_106 f_4_13 zc_123 zr_123_2).trans ?_
        refine (rn_ld d_M_which_109 rfl rfl rfl rfl).trans ?_
        refine (rn_ial d_M_which_110 (by decide) zc_125).trans (zif ?_ rfl)
        refine (rn_ias d_M_which_111 zc_125).trans (zif ?_ rfl)
        refine (rn_ld d_M_which_112 rfl rfl rfl rfl).trans ?_
        refine (rn_gr d_M_which_113 f_4_19 zc_123 zr_123_4).trans ?_
        refine (rn_ld d_M_which_116 rfl rfl rfl rfl).trans ?_
        refine (rn_ld d_M_which_117 rfl rfl rfl rfl).trans ?_
        refine (rn_push d_M_which_118 zcs_iconst_2).trans ?_
        refine (rn_ic_ne d_M_which_119 (t := 127) (by decide)).trans (zif ?_ ?_)
        · refine (rn_ld d_M_which_122 rfl rfl rfl rfl).trans ?_
          refine (rn_goto d_M_which_124 (t := 133) (by decide)).trans ?_
          refine (rn_ias d_M_which_133 zc_127).trans (zif ?_ rfl)
          refine (rn_ld d_M_which_134 rfl rfl rfl rfl).trans ?_
          refine (rn_ld d_M_which_136 rfl rfl rfl rfl).trans ?_
          refine (rn_ld d_M_which_137 rfl rfl rfl rfl).trans ?_
          refine (rn_vI d_M_which_138 (zinv_v l_4_240 (by decide) (Nat.le_of_ble_eq_true rfl) rfl rfl zc_123 (Nat.le_of_ble_eq_true rfl)) (Nat.le_of_ble_eq_true rfl) (Or.inr rfl)).trans (zbI_congr fun v22 h21 => ?_)
          refine Eq.trans (b := zrn X 7 m_M_which 152 [some (.ref 123), some (.int x1), some (.int x2), some (.int x3), some (.int x4), some (.int x5)] [.int (if v22 = 0 then (0 : Int32) else ((1 : Int32) <<< (x5 &&& 31))), .int x4] h21) ?_ ?_
          · refine (rn_if_eq d_M_which_141 (t := 151) (by decide)).trans ?_
            by_cases q23 : v22 = 0
            · simp only [if_pos q23]
              refine (rn_push d_M_which_151 zcs_iconst_0).trans ?_
              all_goals rfl
            · simp only [if_neg q23]
              refine (rn_push d_M_which_144 zcs_iconst_1).trans ?_
              refine (rn_ld d_M_which_145 rfl rfl rfl rfl).trans ?_
              refine (rn_a2 d_M_which_147 rfl).trans ?_
              refine (rn_goto d_M_which_148 (t := 152) (by decide)).trans ?_
              all_goals rfl
          refine (rn_a2 d_M_which_152 rfl).trans ?_
          refine (rn_st d_M_which_153 rfl rfl rfl (by decide) rfl (Nat.le_of_ble_eq_true rfl) (ls' := [some (.ref 123), some (.int x1), some (.int x2), some (.int x3), some (.int (x4 ||| (if v22 = 0 then (0 : Int32) else ((1 : Int32) <<< (x5 &&& 31))))), some (.int x5)]) rfl).trans ?_
          refine (rn_inc d_M_which_155 rfl (c := 1) (by decide) (ls' := [some (.ref 123), some (.int x1), some (.int x2), some (.int x3), some (.int (x4 ||| (if v22 = 0 then (0 : Int32) else ((1 : Int32) <<< (x5 &&& 31))))), some (.int (x5 + 1))]) rfl).trans ?_
          refine (rn_goto d_M_which_158 (t := 44) (by decide)).trans ?_
          rfl
        · refine (rn_ld d_M_which_127 rfl rfl rfl rfl).trans ?_
          refine (rn_gr d_M_which_128 f_4_19 zc_123 zr_123_4).trans ?_
          refine (rn_ld d_M_which_131 rfl rfl rfl rfl).trans ?_
          refine (rn_ial d_M_which_132 (by decide) zc_127).trans (zif ?_ rfl)
          refine (rn_ias d_M_which_133 zc_127).trans (zif ?_ rfl)
          refine (rn_ld d_M_which_134 rfl rfl rfl rfl).trans ?_
          refine (rn_ld d_M_which_136 rfl rfl rfl rfl).trans ?_
          refine (rn_ld d_M_which_137 rfl rfl rfl rfl).trans ?_
          refine (rn_vI d_M_which_138 (zinv_v l_4_240 (by decide) (Nat.le_of_ble_eq_true rfl) rfl rfl zc_123 (Nat.le_of_ble_eq_true rfl)) (Nat.le_of_ble_eq_true rfl) (Or.inr rfl)).trans (zbI_congr fun v25 h24 => ?_)
          refine Eq.trans (b := zrn X 7 m_M_which 152 [some (.ref 123), some (.int x1), some (.int x2), some (.int x3), some (.int x4), some (.int x5)] [.int (if v25 = 0 then (0 : Int32) else ((1 : Int32) <<< (x5 &&& 31))), .int x4] h24) ?_ ?_
          · refine (rn_if_eq d_M_which_141 (t := 151) (by decide)).trans ?_
            by_cases q26 : v25 = 0
            · simp only [if_pos q26]
              refine (rn_push d_M_which_151 zcs_iconst_0).trans ?_
              all_goals rfl
            · simp only [if_neg q26]
              refine (rn_push d_M_which_144 zcs_iconst_1).trans ?_
              refine (rn_ld d_M_which_145 rfl rfl rfl rfl).trans ?_
              refine (rn_a2 d_M_which_147 rfl).trans ?_
              refine (rn_goto d_M_which_148 (t := 152) (by decide)).trans ?_
              all_goals rfl
          refine (rn_a2 d_M_which_152 rfl).trans ?_
          refine (rn_st d_M_which_153 rfl rfl rfl (by decide) rfl (Nat.le_of_ble_eq_true rfl) (ls' := [some (.ref 123), some (.int x1), some (.int x2), some (.int x3), some (.int (x4 ||| (if v25 = 0 then (0 : Int32) else ((1 : Int32) <<< (x5 &&& 31))))), some (.int x5)]) rfl).trans ?_
          refine (rn_inc d_M_which_155 rfl (c := 1) (by decide) (ls' := [some (.ref 123), some (.int x1), some (.int x2), some (.int x3), some (.int (x4 ||| (if v25 = 0 then (0 : Int32) else ((1 : Int32) <<< (x5 &&& 31))))), some (.int (x5 + 1))]) rfl).trans ?_
          refine (rn_goto d_M_which_158 (t := 44) (by decide)).trans ?_
          rfl
theorem e_M_which {X : zX} {x1 : Int32} {x2 : Int32} {h : zH} : zcf X m_M_which [.ref 123, .int x1, .int x2] h = (zbI (zcf X m_M_isOne [.ref 123, .int x1] ((zup h.1 123 7 0), h.2)) fun v2 h1 => (zbI (zcf X m_M_wrongBit [.int (if v2 = 0 then (-1 : Int32) else 0), .int x2, .int 2] h1) fun v5 h4 => (if 0 ≤ v5 then (zbV (zcf X m_M_think [.ref 123] h4) fun h6 => zrn X 7 m_M_which 44 [some (.ref 123), some (.int x1), some (.int x2), some (.int v5), some (.int 0), some (.int 0)] [] h6) else (zbI (zcf X m_M_refuse [.ref 123, .int v5] h4) fun v8 h7 => (some (some (.int v8), h7)))))) := by
  refine (zcf_run (Nat.le_of_ble_eq_true rfl)).trans ?_
  show zrn X 7 m_M_which 0 [some (.ref 123), some (.int x1), some (.int x2), none, none, none] [] h = _
  refine (rn_ld d_M_which_0 rfl rfl rfl rfl).trans ?_
  refine (rn_push d_M_which_1 zcs_iconst_0).trans ?_
  refine (rn_pi d_M_which_2 f_4_61 zc_123).trans ?_
  refine (rn_ld d_M_which_5 rfl rfl rfl rfl).trans ?_
  refine (rn_ld d_M_which_6 rfl rfl rfl rfl).trans ?_
  refine (rn_vI d_M_which_7 (zinv_v l_4_72 (by decide) (Nat.le_of_ble_eq_true rfl) rfl rfl zc_123 (Nat.le_of_ble_eq_true rfl)) (Nat.le_of_ble_eq_true rfl) (Or.inr rfl)).trans (zbI_congr fun v2 h1 => ?_)
  refine Eq.trans (b := zrn X 7 m_M_which 18 [some (.ref 123), some (.int x1), some (.int x2), none, none, none] [.int (if v2 = 0 then (-1 : Int32) else 0)] h1) ?_ ?_
  · refine (rn_if_eq d_M_which_10 (t := 17) (by decide)).trans ?_
    by_cases q3 : v2 = 0
    · simp only [if_pos q3]
      refine (rn_push d_M_which_17 zcs_iconst_m1).trans ?_
      all_goals rfl
    · simp only [if_neg q3]
      refine (rn_push d_M_which_13 zcs_iconst_0).trans ?_
      refine (rn_goto d_M_which_14 (t := 18) (by decide)).trans ?_
      all_goals rfl
  refine (rn_ld d_M_which_18 rfl rfl rfl rfl).trans ?_
  refine (rn_push d_M_which_19 zcs_iconst_2).trans ?_
  refine (rn_sI d_M_which_20 nb_4_215 (zinv_s l_4_215 (by decide) (Nat.le_of_ble_eq_true rfl) rfl rfl (Nat.le_of_ble_eq_true rfl)) (Nat.le_of_ble_eq_true rfl) (Or.inl rfl)).trans (zbI_congr fun v5 h4 => ?_)
  refine (rn_st d_M_which_23 rfl rfl rfl (by decide) rfl (Nat.le_of_ble_eq_true rfl) (ls' := [some (.ref 123), some (.int x1), some (.int x2), some (.int v5), none, none]) rfl).trans ?_
  refine (rn_ld d_M_which_24 rfl rfl rfl rfl).trans ?_
  refine (rn_if_ge d_M_which_25 (t := 34) (by decide)).trans (zif ?_ ?_)
  · refine (rn_push d_M_which_34 zcs_iconst_0).trans ?_
    refine (rn_st d_M_which_35 rfl rfl rfl (by decide) rfl (Nat.le_of_ble_eq_true rfl) (ls' := [some (.ref 123), some (.int x1), some (.int x2), some (.int v5), some (.int 0), none]) rfl).trans ?_
    refine (rn_ld d_M_which_37 rfl rfl rfl rfl).trans ?_
    refine (rn_vV d_M_which_38 (zinv_v l_4_168 (by decide) (Nat.le_of_ble_eq_true rfl) rfl rfl zc_123 (Nat.le_of_ble_eq_true rfl)) (Nat.le_of_ble_eq_true rfl) rfl).trans (zbV_congr fun h6 => ?_)
    refine (rn_push d_M_which_41 zcs_iconst_0).trans ?_
    refine (rn_st d_M_which_42 rfl rfl rfl (by decide) rfl (Nat.le_of_ble_eq_true rfl) (ls' := [some (.ref 123), some (.int x1), some (.int x2), some (.int v5), some (.int 0), some (.int 0)]) rfl).trans ?_
    rfl
  · refine (rn_ld d_M_which_28 rfl rfl rfl rfl).trans ?_
    refine (rn_ld d_M_which_29 rfl rfl rfl rfl).trans ?_
    refine (rn_vI d_M_which_30 (zinv_v l_4_123 (by decide) (Nat.le_of_ble_eq_true rfl) rfl rfl zc_123 (Nat.le_of_ble_eq_true rfl)) (Nat.le_of_ble_eq_true rfl) (Or.inl rfl)).trans (zbI_congr fun v8 h7 => ?_)
    exact rn_ri d_M_which_33 rfl
theorem b_M_isRow_4 {X : zX} {x1 : Int32} {x2 : Int32} {x3 : Int32} {h : zH} : zrn X 6 m_M_isRow 4 [some (.ref 123), some (.int x1), some (.int x2), some (.int x3)] [] h = (if (h.1 123 32) ≤ x3 then (zbV (zcf X m_M_again [.ref 123] h) fun h1 => (if x2 = 0 ∨ x2 = 1 then (some (some (.int x2), h1)) else none)) else (if x2 = 0 then (zbV (zcf X m_M_again [.ref 123] h) fun h2 => (if x2 = 0 ∨ x2 = 1 then (some (some (.int x2), h2)) else none)) else (if x3 ≤ 0 then (if zin x1 7 = true then (if zin x3 12 = true then zrn X 6 m_M_isRow 4 [some (.ref 123), some (.int x1), some (.int (if (h.1 127 (Int32.toNatClampNeg x1)) = (h.1 139 (Int32.toNatClampNeg x3)) then (1 : Int32) else 0)), some (.int (x3 + 1))] [] h else none) else none) else (zbV (zcf X m_M_nightBy [.ref 123, .int (-9)] h) fun h4 => (if zin x1 7 = true then (if zin x3 12 = true then zrn X 6 m_M_isRow 4 [some (.ref 123), some (.int x1), some (.int (if (h4.1 127 (Int32.toNatClampNeg x1)) = (h4.1 139 (Int32.toNatClampNeg x3)) then (1 : Int32) else 0)), some (.int (x3 + 1))] [] h4 else none) else none))))) := by
  refine (rn_ld d_M_isRow_4 rfl rfl rfl rfl).trans ?_
  refine (rn_ld d_M_isRow_5 rfl rfl rfl rfl).trans ?_
  refine (rn_gi d_M_isRow_6 f_4_237 zc_123).trans ?_
  refine (rn_ic_ge d_M_isRow_9 (t := 53) (by decide)).trans (zif ?_ ?_)
  · refine (rn_ld d_M_isRow_53 rfl rfl rfl rfl).trans ?_
    refine (rn_vV d_M_isRow_54 (zinv_v l_4_174 (by decide) (Nat.le_of_ble_eq_true rfl) rfl rfl zc_123 (Nat.le_of_ble_eq_true rfl)) (Nat.le_of_ble_eq_true rfl) rfl).trans (zbV_congr fun h1 => ?_)
    refine (rn_ld d_M_isRow_57 rfl rfl rfl rfl).trans ?_
    exact rn_rzg d_M_isRow_58 rfl
  · refine (rn_ld d_M_isRow_12 rfl rfl rfl rfl).trans ?_
    refine (rn_if_eq d_M_isRow_13 (t := 53) (by decide)).trans (zif ?_ ?_)
    · refine (rn_ld d_M_isRow_53 rfl rfl rfl rfl).trans ?_
      refine (rn_vV d_M_isRow_54 (zinv_v l_4_174 (by decide) (Nat.le_of_ble_eq_true rfl) rfl rfl zc_123 (Nat.le_of_ble_eq_true rfl)) (Nat.le_of_ble_eq_true rfl) rfl).trans (zbV_congr fun h2 => ?_)
      refine (rn_ld d_M_isRow_57 rfl rfl rfl rfl).trans ?_
      exact rn_rzg d_M_isRow_58 rfl
    · refine (rn_ld d_M_isRow_16 rfl rfl rfl rfl).trans ?_
      refine (rn_if_le d_M_isRow_17 (t := 26) (by decide)).trans (zif ?_ ?_)
      · refine (rn_ld d_M_isRow_26 rfl rfl rfl rfl).trans ?_
        refine (rn_gr d_M_isRow_27 f_4_19 zc_123 zr_123_4).trans ?_
        refine (rn_ld d_M_isRow_30 rfl rfl rfl rfl).trans ?_
        refine (rn_ial d_M_isRow_31 (by decide) zc_127).trans (zif ?_ rfl)
        refine (rn_ld d_M_isRow_32 rfl rfl rfl rfl).trans ?_
        refine (rn_gr d_M_isRow_33 f_4_55 zc_123 zr_123_31).trans ?_
        refine (rn_ld d_M_isRow_36 rfl rfl rfl rfl).trans ?_
        refine (rn_ial d_M_isRow_37 (by decide) zc_139).trans (zif ?_ rfl)
        refine Eq.trans (b := zrn X 6 m_M_isRow 46 [some (.ref 123), some (.int x1), some (.int x2), some (.int x3)] [.int (if (h.1 127 (Int32.toNatClampNeg x1)) = (h.1 139 (Int32.toNatClampNeg x3)) then (1 : Int32) else 0)] h) ?_ ?_
        · refine (rn_ic_ne d_M_isRow_38 (t := 45) (by decide)).trans ?_
          by_cases q3 : (h.1 127 (Int32.toNatClampNeg x1)) = (h.1 139 (Int32.toNatClampNeg x3))
          · simp only [if_pos q3]
            refine (rn_push d_M_isRow_41 zcs_iconst_1).trans ?_
            refine (rn_goto d_M_isRow_42 (t := 46) (by decide)).trans ?_
            all_goals rfl
          · simp only [if_neg q3]
            refine (rn_push d_M_isRow_45 zcs_iconst_0).trans ?_
            all_goals rfl
        refine (rn_st d_M_isRow_46 rfl rfl rfl (by decide) rfl (Nat.le_of_ble_eq_true rfl) (ls' := [some (.ref 123), some (.int x1), some (.int (if (h.1 127 (Int32.toNatClampNeg x1)) = (h.1 139 (Int32.toNatClampNeg x3)) then (1 : Int32) else 0)), some (.int x3)]) rfl).trans ?_
        refine (rn_inc d_M_isRow_47 rfl (c := 1) (by decide) (ls' := [some (.ref 123), some (.int x1), some (.int (if (h.1 127 (Int32.toNatClampNeg x1)) = (h.1 139 (Int32.toNatClampNeg x3)) then (1 : Int32) else 0)), some (.int (x3 + 1))]) rfl).trans ?_
        refine (rn_goto d_M_isRow_50 (t := 4) (by decide)).trans ?_
        rfl
      · refine (rn_ld d_M_isRow_20 rfl rfl rfl rfl).trans ?_
        refine (rn_push d_M_isRow_21 zcs_bipush_m9).trans ?_
        refine (rn_vV d_M_isRow_23 (zinv_v l_4_119 (by decide) (Nat.le_of_ble_eq_true rfl) rfl rfl zc_123 (Nat.le_of_ble_eq_true rfl)) (Nat.le_of_ble_eq_true rfl) rfl).trans (zbV_congr fun h4 => ?_)
        refine (rn_ld d_M_isRow_26 rfl rfl rfl rfl).trans ?_
        refine (rn_gr d_M_isRow_27 f_4_19 zc_123 zr_123_4).trans ?_
        refine (rn_ld d_M_isRow_30 rfl rfl rfl rfl).trans ?_
        refine (rn_ial d_M_isRow_31 (by decide) zc_127).trans (zif ?_ rfl)
        refine (rn_ld d_M_isRow_32 rfl rfl rfl rfl).trans ?_
        refine (rn_gr d_M_isRow_33 f_4_55 zc_123 zr_123_31).trans ?_
        refine (rn_ld d_M_isRow_36 rfl rfl rfl rfl).trans ?_
        refine (rn_ial d_M_isRow_37 (by decide) zc_139).trans (zif ?_ rfl)
        refine Eq.trans (b := zrn X 6 m_M_isRow 46 [some (.ref 123), some (.int x1), some (.int x2), some (.int x3)] [.int (if (h4.1 127 (Int32.toNatClampNeg x1)) = (h4.1 139 (Int32.toNatClampNeg x3)) then (1 : Int32) else 0)] h4) ?_ ?_
        · refine (rn_ic_ne d_M_isRow_38 (t := 45) (by decide)).trans ?_
          by_cases q5 : (h4.1 127 (Int32.toNatClampNeg x1)) = (h4.1 139 (Int32.toNatClampNeg x3))
          · simp only [if_pos q5]
            refine (rn_push d_M_isRow_41 zcs_iconst_1).trans ?_
            refine (rn_goto d_M_isRow_42 (t := 46) (by decide)).trans ?_
            all_goals rfl
          · simp only [if_neg q5]
            refine (rn_push d_M_isRow_45 zcs_iconst_0).trans ?_
            all_goals rfl
        refine (rn_st d_M_isRow_46 rfl rfl rfl (by decide) rfl (Nat.le_of_ble_eq_true rfl) (ls' := [some (.ref 123), some (.int x1), some (.int (if (h4.1 127 (Int32.toNatClampNeg x1)) = (h4.1 139 (Int32.toNatClampNeg x3)) then (1 : Int32) else 0)), some (.int x3)]) rfl).trans ?_
        refine (rn_inc d_M_isRow_47 rfl (c := 1) (by decide) (ls' := [some (.ref 123), some (.int x1), some (.int (if (h4.1 127 (Int32.toNatClampNeg x1)) = (h4.1 139 (Int32.toNatClampNeg x3)) then (1 : Int32) else 0)), some (.int (x3 + 1))]) rfl).trans ?_
        refine (rn_goto d_M_isRow_50 (t := 4) (by decide)).trans ?_
        rfl
theorem e_M_isRow {X : zX} {x1 : Int32} {h : zH} : zcf X m_M_isRow [.ref 123, .int x1] h = zrn X 6 m_M_isRow 4 [some (.ref 123), some (.int x1), some (.int 1), some (.int 0)] [] h := by
  refine (zcf_run (Nat.le_of_ble_eq_true rfl)).trans ?_
  show zrn X 6 m_M_isRow 0 [some (.ref 123), some (.int x1), none, none] [] h = _
  refine (rn_push d_M_isRow_0 zcs_iconst_1).trans ?_
  refine (rn_st d_M_isRow_1 rfl rfl rfl (by decide) rfl (Nat.le_of_ble_eq_true rfl) (ls' := [some (.ref 123), some (.int x1), some (.int 1), none]) rfl).trans ?_
  refine (rn_push d_M_isRow_2 zcs_iconst_0).trans ?_
  refine (rn_st d_M_isRow_3 rfl rfl rfl (by decide) rfl (Nat.le_of_ble_eq_true rfl) (ls' := [some (.ref 123), some (.int x1), some (.int 1), some (.int 0)]) rfl).trans ?_
  rfl
theorem b_M_bestStep_36 {X : zX} {x1 : Int32} {x2 : Int32} {x3 : Int32} {x4 : Int32} {x5 : Int32} {g6 : Option Value} {g7 : Option Value} {h : zH} : zrn X 5 m_M_bestStep 36 [some (.ref 123), some (.int x1), some (.int x2), some (.int x3), some (.int x4), some (.int x5), g6, g7] [] h = (if 5 ≤ x5 then (some (some (.int x3), h)) else (zbI (zcf X m_M_stepFrom [.ref 123, .int x1, .int x5] h) fun v2 h1 => (if v2 < 0 then zrn X 5 m_M_bestStep 36 [some (.ref 123), some (.int x1), some (.int x2), some (.int x3), some (.int x4), some (.int (x5 + 1)), some (.int v2), g7] [] h1 else (if zin x1 7 = true then (zbI (zcf X m_M_watchersOf [.ref 123, .int x1] ((zup h1.1 126 (Int32.toNatClampNeg x1) v2), h1.2)) fun v4 h3 => (zbI (zcf X m_M_onesOf [.int v4] h3) fun v6 h5 => (if zin x1 7 = true then zrn X 5 m_M_bestStep 36 [some (.ref 123), some (.int x1), some (.int x2), some (.int (if x4 ≤ v6 then x3 else x5)), some (.int (if x4 ≤ v6 then x4 else v6)), some (.int (x5 + 1)), some (.int v2), some (.int v6)] [] ((zup h5.1 126 (Int32.toNatClampNeg x1) x2), h5.2) else none))) else none)))) := by
  refine (rn_ld d_M_bestStep_36 rfl rfl rfl rfl).trans ?_
  refine (rn_push d_M_bestStep_38 zcs_iconst_5).trans ?_
  refine (rn_ic_ge d_M_bestStep_39 (t := 117) (by decide)).trans (zif ?_ ?_)
  · refine (rn_ld d_M_bestStep_117 rfl rfl rfl rfl).trans ?_
    exact rn_ri d_M_bestStep_118 rfl
  · refine (rn_ld d_M_bestStep_42 rfl rfl rfl rfl).trans ?_
    refine (rn_ld d_M_bestStep_43 rfl rfl rfl rfl).trans ?_
    refine (rn_ld d_M_bestStep_44 rfl rfl rfl rfl).trans ?_
    refine (rn_vI d_M_bestStep_46 (zinv_v l_4_243 (by decide) (Nat.le_of_ble_eq_true rfl) rfl rfl zc_123 (Nat.le_of_ble_eq_true rfl)) (Nat.le_of_ble_eq_true rfl) (Or.inl rfl)).trans (zbI_congr fun v2 h1 => ?_)
    refine (rn_st d_M_bestStep_49 rfl rfl rfl (by decide) rfl (Nat.le_of_ble_eq_true rfl) (ls' := [some (.ref 123), some (.int x1), some (.int x2), some (.int x3), some (.int x4), some (.int x5), some (.int v2), g7]) rfl).trans ?_
    refine (rn_ld d_M_bestStep_51 rfl rfl rfl rfl).trans ?_
    refine (rn_if_lt d_M_bestStep_53 (t := 111) (by decide)).trans (zif ?_ ?_)
    · refine (rn_inc d_M_bestStep_111 rfl (c := 1) (by decide) (ls' := [some (.ref 123), some (.int x1), some (.int x2), some (.int x3), some (.int x4), some (.int (x5 + 1)), some (.int v2), g7]) rfl).trans ?_
      refine (rn_goto d_M_bestStep_114 (t := 36) (by decide)).trans ?_
      rfl
    · refine (rn_ld d_M_bestStep_56 rfl rfl rfl rfl).trans ?_
      refine (rn_gr d_M_bestStep_57 f_4_16 zc_123 zr_123_3).trans ?_
      refine (rn_ld d_M_bestStep_60 rfl rfl rfl rfl).trans ?_
      refine (rn_ld d_M_bestStep_61 rfl rfl rfl rfl).trans ?_
      refine (rn_ias d_M_bestStep_63 zc_126).trans (zif ?_ rfl)
      refine (rn_ld d_M_bestStep_64 rfl rfl rfl rfl).trans ?_
      refine (rn_ld d_M_bestStep_65 rfl rfl rfl rfl).trans ?_
      refine (rn_vI d_M_bestStep_66 (zinv_v l_4_218 (by decide) (Nat.le_of_ble_eq_true rfl) rfl rfl zc_123 (Nat.le_of_ble_eq_true rfl)) (Nat.le_of_ble_eq_true rfl) (Or.inl rfl)).trans (zbI_congr fun v4 h3 => ?_)
      refine (rn_sI d_M_bestStep_69 nb_4_231 (zinv_s l_4_231 (by decide) (Nat.le_of_ble_eq_true rfl) rfl rfl (Nat.le_of_ble_eq_true rfl)) (Nat.le_of_ble_eq_true rfl) (Or.inl rfl)).trans (zbI_congr fun v6 h5 => ?_)
      refine (rn_st d_M_bestStep_72 rfl rfl rfl (by decide) rfl (Nat.le_of_ble_eq_true rfl) (ls' := [some (.ref 123), some (.int x1), some (.int x2), some (.int x3), some (.int x4), some (.int x5), some (.int v2), some (.int v6)]) rfl).trans ?_
      refine (rn_ld d_M_bestStep_74 rfl rfl rfl rfl).trans ?_
      refine (rn_ld d_M_bestStep_76 rfl rfl rfl rfl).trans ?_
      refine Eq.trans (b := zrn X 5 m_M_bestStep 87 [some (.ref 123), some (.int x1), some (.int x2), some (.int x3), some (.int x4), some (.int x5), some (.int v2), some (.int v6)] [.int (if x4 ≤ v6 then x3 else x5)] h5) ?_ ?_
      · refine (rn_ic_ge d_M_bestStep_78 (t := 86) (by decide)).trans ?_
        by_cases q7 : x4 ≤ v6
        · simp only [if_pos q7]
          refine (rn_ld d_M_bestStep_86 rfl rfl rfl rfl).trans ?_
          all_goals rfl
        · simp only [if_neg q7]
          refine (rn_ld d_M_bestStep_81 rfl rfl rfl rfl).trans ?_
          refine (rn_goto d_M_bestStep_83 (t := 87) (by decide)).trans ?_
          all_goals rfl
      refine (rn_st d_M_bestStep_87 rfl rfl rfl (by decide) rfl (Nat.le_of_ble_eq_true rfl) (ls' := [some (.ref 123), some (.int x1), some (.int x2), some (.int (if x4 ≤ v6 then x3 else x5)), some (.int x4), some (.int x5), some (.int v2), some (.int v6)]) rfl).trans ?_
      refine (rn_ld d_M_bestStep_88 rfl rfl rfl rfl).trans ?_
      refine (rn_ld d_M_bestStep_90 rfl rfl rfl rfl).trans ?_
      refine Eq.trans (b := zrn X 5 m_M_bestStep 102 [some (.ref 123), some (.int x1), some (.int x2), some (.int (if x4 ≤ v6 then x3 else x5)), some (.int x4), some (.int x5), some (.int v2), some (.int v6)] [.int (if x4 ≤ v6 then x4 else v6)] h5) ?_ ?_
      · refine (rn_ic_ge d_M_bestStep_92 (t := 100) (by decide)).trans ?_
        by_cases q8 : x4 ≤ v6
        · simp only [if_pos q8]
          refine (rn_ld d_M_bestStep_100 rfl rfl rfl rfl).trans ?_
          all_goals rfl
        · simp only [if_neg q8]
          refine (rn_ld d_M_bestStep_95 rfl rfl rfl rfl).trans ?_
          refine (rn_goto d_M_bestStep_97 (t := 102) (by decide)).trans ?_
          all_goals rfl
      refine (rn_st d_M_bestStep_102 rfl rfl rfl (by decide) rfl (Nat.le_of_ble_eq_true rfl) (ls' := [some (.ref 123), some (.int x1), some (.int x2), some (.int (if x4 ≤ v6 then x3 else x5)), some (.int (if x4 ≤ v6 then x4 else v6)), some (.int x5), some (.int v2), some (.int v6)]) rfl).trans ?_
      refine (rn_ld d_M_bestStep_104 rfl rfl rfl rfl).trans ?_
      refine (rn_gr d_M_bestStep_105 f_4_16 zc_123 zr_123_3).trans ?_
      refine (rn_ld d_M_bestStep_108 rfl rfl rfl rfl).trans ?_
      refine (rn_ld d_M_bestStep_109 rfl rfl rfl rfl).trans ?_
      refine (rn_ias d_M_bestStep_110 zc_126).trans (zif ?_ rfl)
      refine (rn_inc d_M_bestStep_111 rfl (c := 1) (by decide) (ls' := [some (.ref 123), some (.int x1), some (.int x2), some (.int (if x4 ≤ v6 then x3 else x5)), some (.int (if x4 ≤ v6 then x4 else v6)), some (.int (x5 + 1)), some (.int v2), some (.int v6)]) rfl).trans ?_
      refine (rn_goto d_M_bestStep_114 (t := 36) (by decide)).trans ?_
      rfl
theorem e_M_bestStep {X : zX} {x1 : Int32} {h : zH} : zcf X m_M_bestStep [.ref 123, .int x1] h = (zbI (zcf X m_M_isOne [.ref 123, .int x1] ((zup h.1 123 7 0), h.2)) fun v2 h1 => (if v2 = 0 then (zbI (zcf X m_M_refuse [.ref 123, .int (-1)] h1) fun v4 h3 => (some (some (.int v4), h3))) else (if zin x1 7 = true then zrn X 5 m_M_bestStep 36 [some (.ref 123), some (.int x1), some (.int (h1.1 126 (Int32.toNatClampNeg x1))), some (.int (-9)), some (.int 7), some (.int 0), none, none] [] h1 else none))) := by
  refine (zcf_run (Nat.le_of_ble_eq_true rfl)).trans ?_
  show zrn X 5 m_M_bestStep 0 [some (.ref 123), some (.int x1), none, none, none, none, none, none] [] h = _
  refine (rn_ld d_M_bestStep_0 rfl rfl rfl rfl).trans ?_
  refine (rn_push d_M_bestStep_1 zcs_iconst_0).trans ?_
  refine (rn_pi d_M_bestStep_2 f_4_61 zc_123).trans ?_
  refine (rn_ld d_M_bestStep_5 rfl rfl rfl rfl).trans ?_
  refine (rn_ld d_M_bestStep_6 rfl rfl rfl rfl).trans ?_
  refine (rn_vI d_M_bestStep_7 (zinv_v l_4_72 (by decide) (Nat.le_of_ble_eq_true rfl) rfl rfl zc_123 (Nat.le_of_ble_eq_true rfl)) (Nat.le_of_ble_eq_true rfl) (Or.inr rfl)).trans (zbI_congr fun v2 h1 => ?_)
  refine (rn_if_ne d_M_bestStep_10 (t := 19) (by decide)).trans (zif ?_ ?_)
  · refine (rn_ld d_M_bestStep_13 rfl rfl rfl rfl).trans ?_
    refine (rn_push d_M_bestStep_14 zcs_iconst_m1).trans ?_
    refine (rn_vI d_M_bestStep_15 (zinv_v l_4_123 (by decide) (Nat.le_of_ble_eq_true rfl) rfl rfl zc_123 (Nat.le_of_ble_eq_true rfl)) (Nat.le_of_ble_eq_true rfl) (Or.inl rfl)).trans (zbI_congr fun v4 h3 => ?_)
    exact rn_ri d_M_bestStep_18 rfl
  · refine (rn_ld d_M_bestStep_19 rfl rfl rfl rfl).trans ?_
    refine (rn_gr d_M_bestStep_20 f_4_16 zc_123 zr_123_3).trans ?_
    refine (rn_ld d_M_bestStep_23 rfl rfl rfl rfl).trans ?_
    refine (rn_ial d_M_bestStep_24 (by decide) zc_126).trans (zif ?_ rfl)
    refine (rn_st d_M_bestStep_25 rfl rfl rfl (by decide) rfl (Nat.le_of_ble_eq_true rfl) (ls' := [some (.ref 123), some (.int x1), some (.int (h1.1 126 (Int32.toNatClampNeg x1))), none, none, none, none, none]) rfl).trans ?_
    refine (rn_push d_M_bestStep_26 zcs_bipush_m9).trans ?_
    refine (rn_st d_M_bestStep_28 rfl rfl rfl (by decide) rfl (Nat.le_of_ble_eq_true rfl) (ls' := [some (.ref 123), some (.int x1), some (.int (h1.1 126 (Int32.toNatClampNeg x1))), some (.int (-9)), none, none, none, none]) rfl).trans ?_
    refine (rn_push d_M_bestStep_29 zcs_bipush_7).trans ?_
    refine (rn_st d_M_bestStep_31 rfl rfl rfl (by decide) rfl (Nat.le_of_ble_eq_true rfl) (ls' := [some (.ref 123), some (.int x1), some (.int (h1.1 126 (Int32.toNatClampNeg x1))), some (.int (-9)), some (.int 7), none, none, none]) rfl).trans ?_
    refine (rn_push d_M_bestStep_33 zcs_iconst_0).trans ?_
    refine (rn_st d_M_bestStep_34 rfl rfl rfl (by decide) rfl (Nat.le_of_ble_eq_true rfl) (ls' := [some (.ref 123), some (.int x1), some (.int (h1.1 126 (Int32.toNatClampNeg x1))), some (.int (-9)), some (.int 7), some (.int 0), none, none]) rfl).trans ?_
    rfl
theorem e_M_stepFrom {X : zX} {x1 : Int32} {x2 : Int32} {h : zH} : zcf X m_M_stepFrom [.ref 123, .int x1, .int x2] h = (if x2 = 4 then (if zin x1 7 = true then (if (h.1 126 (Int32.toNatClampNeg x1)) < 0 then (some (some (.int (-9)), h)) else (if 4 ≤ x2 then (some (some (.int (h.1 126 (Int32.toNatClampNeg x1))), h)) else (zbI (zcf X m_M_oneIn [.ref 123, .int (h.1 126 (Int32.toNatClampNeg x1))] h) fun v2 h1 => (if v2 < 0 then (some (some (.int (h.1 126 (Int32.toNatClampNeg x1))), h1)) else (some (some (.int (-9)), h1)))))) else none) else (if zin x1 7 = true then (zbI (zcf X m_M_straight [.int (h.1 126 (Int32.toNatClampNeg x1)), .int x2, .int 1] h) fun v4 h3 => (if v4 < 0 then (some (some (.int (-9)), h3)) else (if 4 ≤ x2 then (some (some (.int v4), h3)) else (zbI (zcf X m_M_oneIn [.ref 123, .int v4] h3) fun v6 h5 => (if v6 < 0 then (some (some (.int v4), h5)) else (some (some (.int (-9)), h5))))))) else none)) := by
  refine (zcf_run (Nat.le_of_ble_eq_true rfl)).trans ?_
  show zrn X 2 m_M_stepFrom 0 [some (.ref 123), some (.int x1), some (.int x2), none] [] h = _
  refine (rn_ld d_M_stepFrom_0 rfl rfl rfl rfl).trans ?_
  refine (rn_push d_M_stepFrom_1 zcs_iconst_4).trans ?_
  refine (rn_ic_ne d_M_stepFrom_2 (t := 14) (by decide)).trans (zif ?_ ?_)
  · refine (rn_ld d_M_stepFrom_5 rfl rfl rfl rfl).trans ?_
    refine (rn_gr d_M_stepFrom_6 f_4_16 zc_123 zr_123_3).trans ?_
    refine (rn_ld d_M_stepFrom_9 rfl rfl rfl rfl).trans ?_
    refine (rn_ial d_M_stepFrom_10 (by decide) zc_126).trans (zif ?_ rfl)
    refine (rn_goto d_M_stepFrom_11 (t := 25) (by decide)).trans ?_
    refine (rn_st d_M_stepFrom_25 rfl rfl rfl (by decide) rfl (Nat.le_of_ble_eq_true rfl) (ls' := [some (.ref 123), some (.int x1), some (.int x2), some (.int (h.1 126 (Int32.toNatClampNeg x1)))]) rfl).trans ?_
    refine (rn_ld d_M_stepFrom_26 rfl rfl rfl rfl).trans ?_
    refine (rn_if_lt d_M_stepFrom_27 (t := 43) (by decide)).trans (zif ?_ ?_)
    · refine (rn_push d_M_stepFrom_43 zcs_bipush_m9).trans ?_
      refine (rn_goto d_M_stepFrom_45 (t := 49) (by decide)).trans ?_
      exact rn_ri d_M_stepFrom_49 rfl
    · refine (rn_ld d_M_stepFrom_30 rfl rfl rfl rfl).trans ?_
      refine (rn_push d_M_stepFrom_31 zcs_iconst_4).trans ?_
      refine (rn_ic_ge d_M_stepFrom_32 (t := 48) (by decide)).trans (zif ?_ ?_)
      · refine (rn_ld d_M_stepFrom_48 rfl rfl rfl rfl).trans ?_
        exact rn_ri d_M_stepFrom_49 rfl
      · refine (rn_ld d_M_stepFrom_35 rfl rfl rfl rfl).trans ?_
        refine (rn_ld d_M_stepFrom_36 rfl rfl rfl rfl).trans ?_
        refine (rn_vI d_M_stepFrom_37 (zinv_v l_4_84 (by decide) (Nat.le_of_ble_eq_true rfl) rfl rfl zc_123 (Nat.le_of_ble_eq_true rfl)) (Nat.le_of_ble_eq_true rfl) (Or.inl rfl)).trans (zbI_congr fun v2 h1 => ?_)
        refine (rn_if_lt d_M_stepFrom_40 (t := 48) (by decide)).trans (zif ?_ ?_)
        · refine (rn_ld d_M_stepFrom_48 rfl rfl rfl rfl).trans ?_
          exact rn_ri d_M_stepFrom_49 rfl
        · refine (rn_push d_M_stepFrom_43 zcs_bipush_m9).trans ?_
          refine (rn_goto d_M_stepFrom_45 (t := 49) (by decide)).trans ?_
          exact rn_ri d_M_stepFrom_49 rfl
  · refine (rn_ld d_M_stepFrom_14 rfl rfl rfl rfl).trans ?_
    refine (rn_gr d_M_stepFrom_15 f_4_16 zc_123 zr_123_3).trans ?_
    refine (rn_ld d_M_stepFrom_18 rfl rfl rfl rfl).trans ?_
    refine (rn_ial d_M_stepFrom_19 (by decide) zc_126).trans (zif ?_ rfl)
    refine (rn_ld d_M_stepFrom_20 rfl rfl rfl rfl).trans ?_
    refine (rn_push d_M_stepFrom_21 zcs_iconst_1).trans ?_
    refine (rn_sI d_M_stepFrom_22 nb_4_80 (zinv_s l_4_80 (by decide) (Nat.le_of_ble_eq_true rfl) rfl rfl (Nat.le_of_ble_eq_true rfl)) (Nat.le_of_ble_eq_true rfl) (Or.inl rfl)).trans (zbI_congr fun v4 h3 => ?_)
    refine (rn_st d_M_stepFrom_25 rfl rfl rfl (by decide) rfl (Nat.le_of_ble_eq_true rfl) (ls' := [some (.ref 123), some (.int x1), some (.int x2), some (.int v4)]) rfl).trans ?_
    refine (rn_ld d_M_stepFrom_26 rfl rfl rfl rfl).trans ?_
    refine (rn_if_lt d_M_stepFrom_27 (t := 43) (by decide)).trans (zif ?_ ?_)
    · refine (rn_push d_M_stepFrom_43 zcs_bipush_m9).trans ?_
      refine (rn_goto d_M_stepFrom_45 (t := 49) (by decide)).trans ?_
      exact rn_ri d_M_stepFrom_49 rfl
    · refine (rn_ld d_M_stepFrom_30 rfl rfl rfl rfl).trans ?_
      refine (rn_push d_M_stepFrom_31 zcs_iconst_4).trans ?_
      refine (rn_ic_ge d_M_stepFrom_32 (t := 48) (by decide)).trans (zif ?_ ?_)
      · refine (rn_ld d_M_stepFrom_48 rfl rfl rfl rfl).trans ?_
        exact rn_ri d_M_stepFrom_49 rfl
      · refine (rn_ld d_M_stepFrom_35 rfl rfl rfl rfl).trans ?_
        refine (rn_ld d_M_stepFrom_36 rfl rfl rfl rfl).trans ?_
        refine (rn_vI d_M_stepFrom_37 (zinv_v l_4_84 (by decide) (Nat.le_of_ble_eq_true rfl) rfl rfl zc_123 (Nat.le_of_ble_eq_true rfl)) (Nat.le_of_ble_eq_true rfl) (Or.inl rfl)).trans (zbI_congr fun v6 h5 => ?_)
        refine (rn_if_lt d_M_stepFrom_40 (t := 48) (by decide)).trans (zif ?_ ?_)
        · refine (rn_ld d_M_stepFrom_48 rfl rfl rfl rfl).trans ?_
          exact rn_ri d_M_stepFrom_49 rfl
        · refine (rn_push d_M_stepFrom_43 zcs_bipush_m9).trans ?_
          refine (rn_goto d_M_stepFrom_45 (t := 49) (by decide)).trans ?_
          exact rn_ri d_M_stepFrom_49 rfl
theorem b_M_two_26 {X : zX} {x1 : Int32} {x2 : Int32} {x3 : Int32} {g4 : Option Value} {h : zH} : zrn X 4 m_M_two 26 [some (.ref 123), some (.int x1), some (.int x2), some (.int x3), g4] [] h = (if 20 ≤ x3 then zrn X 4 m_M_two 112 [some (.ref 123), some (.int x1), some (.int x2), some (.int 0), g4] [] h else (zbI (zcf X m_M_stepFrom [.ref 123, .int x2, .int (zrem x3 5)] h) fun v2 h1 => (if zin x3 20 = true then (if v2 < 0 then zrn X 4 m_M_two 26 [some (.ref 123), some (.int x1), some (.int x2), some (.int (x3 + 1)), some (.int v2)] [] ((zup h1.1 140 (Int32.toNatClampNeg x3) (-1)), h1.2) else (if zin x2 7 = true then (if zin x1 7 = true then (zbI (zcf X m_M_aheadOf [.ref 123, .int x1] ((zup (zup (zup h1.1 140 (Int32.toNatClampNeg x3) (-1)) 126 (Int32.toNatClampNeg x2) v2) 127 (Int32.toNatClampNeg x1) (x3 / 5)), h1.2)) fun v4 h3 => (if v4 = x2 then (if zin x3 20 = true then (zbV (zcf X m_M_again [.ref 123] ((zup h3.1 140 (Int32.toNatClampNeg x3) 1), h3.2)) fun h5 => zrn X 4 m_M_two 26 [some (.ref 123), some (.int x1), some (.int x2), some (.int (x3 + 1)), some (.int v2)] [] h5) else none) else (zbI (zcf X m_M_lensOf [.ref 123, .int x1] h3) fun v7 h6 => (if zin x3 20 = true then (zbV (zcf X m_M_again [.ref 123] ((zup h6.1 140 (Int32.toNatClampNeg x3) (if v7 = x2 then (1 : Int32) else 0)), h6.2)) fun h9 => zrn X 4 m_M_two 26 [some (.ref 123), some (.int x1), some (.int x2), some (.int (x3 + 1)), some (.int v2)] [] h9) else none)))) else none) else none)) else none))) := by
  refine (rn_ld d_M_two_26 rfl rfl rfl rfl).trans ?_
  refine (rn_push d_M_two_27 zcs_bipush_20).trans ?_
  refine (rn_ic_ge d_M_two_29 (t := 110) (by decide)).trans (zif ?_ ?_)
  · refine (rn_push d_M_two_110 zcs_iconst_0).trans ?_
    refine (rn_st d_M_two_111 rfl rfl rfl (by decide) rfl (Nat.le_of_ble_eq_true rfl) (ls' := [some (.ref 123), some (.int x1), some (.int x2), some (.int 0), g4]) rfl).trans ?_
    rfl
  · refine (rn_ld d_M_two_32 rfl rfl rfl rfl).trans ?_
    refine (rn_ld d_M_two_33 rfl rfl rfl rfl).trans ?_
    refine (rn_ld d_M_two_34 rfl rfl rfl rfl).trans ?_
    refine (rn_push d_M_two_35 zcs_iconst_5).trans ?_
    refine (rn_a2 d_M_two_36 (zar_rem (by decide))).trans ?_
    refine (rn_vI d_M_two_37 (zinv_v l_4_243 (by decide) (Nat.le_of_ble_eq_true rfl) rfl rfl zc_123 (Nat.le_of_ble_eq_true rfl)) (Nat.le_of_ble_eq_true rfl) (Or.inl rfl)).trans (zbI_congr fun v2 h1 => ?_)
    refine (rn_st d_M_two_40 rfl rfl rfl (by decide) rfl (Nat.le_of_ble_eq_true rfl) (ls' := [some (.ref 123), some (.int x1), some (.int x2), some (.int x3), some (.int v2)]) rfl).trans ?_
    refine (rn_ld d_M_two_42 rfl rfl rfl rfl).trans ?_
    refine (rn_gr d_M_two_43 f_4_58 zc_123 zr_123_33).trans ?_
    refine (rn_ld d_M_two_46 rfl rfl rfl rfl).trans ?_
    refine (rn_push d_M_two_47 zcs_iconst_m1).trans ?_
    refine (rn_ias d_M_two_48 zc_140).trans (zif ?_ rfl)
    refine (rn_ld d_M_two_49 rfl rfl rfl rfl).trans ?_
    refine (rn_if_lt d_M_two_51 (t := 104) (by decide)).trans (zif ?_ ?_)
    · refine (rn_inc d_M_two_104 rfl (c := 1) (by decide) (ls' := [some (.ref 123), some (.int x1), some (.int x2), some (.int (x3 + 1)), some (.int v2)]) rfl).trans ?_
      refine (rn_goto d_M_two_107 (t := 26) (by decide)).trans ?_
      rfl
    · refine (rn_ld d_M_two_54 rfl rfl rfl rfl).trans ?_
      refine (rn_gr d_M_two_55 f_4_16 zc_123 zr_123_3).trans ?_
      refine (rn_ld d_M_two_58 rfl rfl rfl rfl).trans ?_
      refine (rn_ld d_M_two_59 rfl rfl rfl rfl).trans ?_
      refine (rn_ias d_M_two_61 zc_126).trans (zif ?_ rfl)
      refine (rn_ld d_M_two_62 rfl rfl rfl rfl).trans ?_
      refine (rn_gr d_M_two_63 f_4_19 zc_123 zr_123_4).trans ?_
      refine (rn_ld d_M_two_66 rfl rfl rfl rfl).trans ?_
      refine (rn_ld d_M_two_67 rfl rfl rfl rfl).trans ?_
      refine (rn_push d_M_two_68 zcs_iconst_5).trans ?_
      refine (rn_a2 d_M_two_69 (zar_div (by decide))).trans ?_
      refine (rn_ias d_M_two_70 zc_127).trans (zif ?_ rfl)
      refine (rn_ld d_M_two_71 rfl rfl rfl rfl).trans ?_
      refine (rn_gr d_M_two_72 f_4_58 zc_123 zr_123_33).trans ?_
      refine (rn_ld d_M_two_75 rfl rfl rfl rfl).trans ?_
      refine (rn_ld d_M_two_76 rfl rfl rfl rfl).trans ?_
      refine (rn_ld d_M_two_77 rfl rfl rfl rfl).trans ?_
      refine (rn_vI d_M_two_78 (zinv_v l_4_97 (by decide) (Nat.le_of_ble_eq_true rfl) rfl rfl zc_123 (Nat.le_of_ble_eq_true rfl)) (Nat.le_of_ble_eq_true rfl) (Or.inl rfl)).trans (zbI_congr fun v4 h3 => ?_)
      refine (rn_ld d_M_two_81 rfl rfl rfl rfl).trans ?_
      refine (rn_ic_eq d_M_two_82 (t := 94) (by decide)).trans (zif ?_ ?_)
      · refine (rn_push d_M_two_94 zcs_iconst_1).trans ?_
        refine (rn_goto d_M_two_95 (t := 99) (by decide)).trans ?_
        refine (rn_ias d_M_two_99 zc_140).trans (zif ?_ rfl)
        refine (rn_ld d_M_two_100 rfl rfl rfl rfl).trans ?_
        refine (rn_vV d_M_two_101 (zinv_v l_4_174 (by decide) (Nat.le_of_ble_eq_true rfl) rfl rfl zc_123 (Nat.le_of_ble_eq_true rfl)) (Nat.le_of_ble_eq_true rfl) rfl).trans (zbV_congr fun h5 => ?_)
        refine (rn_inc d_M_two_104 rfl (c := 1) (by decide) (ls' := [some (.ref 123), some (.int x1), some (.int x2), some (.int (x3 + 1)), some (.int v2)]) rfl).trans ?_
        refine (rn_goto d_M_two_107 (t := 26) (by decide)).trans ?_
        rfl
      · refine (rn_ld d_M_two_85 rfl rfl rfl rfl).trans ?_
        refine (rn_ld d_M_two_86 rfl rfl rfl rfl).trans ?_
        refine (rn_vI d_M_two_87 (zinv_v l_4_113 (by decide) (Nat.le_of_ble_eq_true rfl) rfl rfl zc_123 (Nat.le_of_ble_eq_true rfl)) (Nat.le_of_ble_eq_true rfl) (Or.inl rfl)).trans (zbI_congr fun v7 h6 => ?_)
        refine (rn_ld d_M_two_90 rfl rfl rfl rfl).trans ?_
        refine Eq.trans (b := zrn X 4 m_M_two 99 [some (.ref 123), some (.int x1), some (.int x2), some (.int x3), some (.int v2)] [.int (if v7 = x2 then (1 : Int32) else 0), .int x3, .ref 140] h6) ?_ ?_
        · refine (rn_ic_ne d_M_two_91 (t := 98) (by decide)).trans ?_
          by_cases q8 : v7 = x2
          · simp only [if_pos q8]
            refine (rn_push d_M_two_94 zcs_iconst_1).trans ?_
            refine (rn_goto d_M_two_95 (t := 99) (by decide)).trans ?_
            all_goals rfl
          · simp only [if_neg q8]
            refine (rn_push d_M_two_98 zcs_iconst_0).trans ?_
            all_goals rfl
        refine (rn_ias d_M_two_99 zc_140).trans (zif ?_ rfl)
        refine (rn_ld d_M_two_100 rfl rfl rfl rfl).trans ?_
        refine (rn_vV d_M_two_101 (zinv_v l_4_174 (by decide) (Nat.le_of_ble_eq_true rfl) rfl rfl zc_123 (Nat.le_of_ble_eq_true rfl)) (Nat.le_of_ble_eq_true rfl) rfl).trans (zbV_congr fun h9 => ?_)
        refine (rn_inc d_M_two_104 rfl (c := 1) (by decide) (ls' := [some (.ref 123), some (.int x1), some (.int x2), some (.int (x3 + 1)), some (.int v2)]) rfl).trans ?_
        refine (rn_goto d_M_two_107 (t := 26) (by decide)).trans ?_
        rfl
theorem b_M_two_112 {X : zX} {x1 : Int32} {x2 : Int32} {x3 : Int32} {g4 : Option Value} {h : zH} : zrn X 4 m_M_two 112 [some (.ref 123), some (.int x1), some (.int x2), some (.int x3), g4] [] h = (if 20 ≤ x3 then (some (some (.int (-9)), h)) else (zbI (zcf X m_M_areResting [.ref 123, .int x3] h) fun v2 h1 => (if v2 = 0 then zrn X 4 m_M_two 112 [some (.ref 123), some (.int x1), some (.int x2), some (.int (x3 + 1)), g4] [] h1 else (some (some (.int ((10 * (x3 / 5)) + (zrem x3 5))), h1))))) := by
  refine (rn_ld d_M_two_112 rfl rfl rfl rfl).trans ?_
  refine (rn_push d_M_two_113 zcs_bipush_20).trans ?_
  refine (rn_ic_ge d_M_two_115 (t := 143) (by decide)).trans (zif ?_ ?_)
  · refine (rn_push d_M_two_143 zcs_bipush_m9).trans ?_
    exact rn_ri d_M_two_145 rfl
  · refine (rn_ld d_M_two_118 rfl rfl rfl rfl).trans ?_
    refine (rn_ld d_M_two_119 rfl rfl rfl rfl).trans ?_
    refine (rn_vI d_M_two_120 (zinv_v l_4_250 (by decide) (Nat.le_of_ble_eq_true rfl) rfl rfl zc_123 (Nat.le_of_ble_eq_true rfl)) (Nat.le_of_ble_eq_true rfl) (Or.inr rfl)).trans (zbI_congr fun v2 h1 => ?_)
    refine (rn_if_eq d_M_two_123 (t := 137) (by decide)).trans (zif ?_ ?_)
    · refine (rn_inc d_M_two_137 rfl (c := 1) (by decide) (ls' := [some (.ref 123), some (.int x1), some (.int x2), some (.int (x3 + 1)), g4]) rfl).trans ?_
      refine (rn_goto d_M_two_140 (t := 112) (by decide)).trans ?_
      rfl
    · refine (rn_push d_M_two_126 zcs_bipush_10).trans ?_
      refine (rn_ld d_M_two_128 rfl rfl rfl rfl).trans ?_
      refine (rn_push d_M_two_129 zcs_iconst_5).trans ?_
      refine (rn_a2 d_M_two_130 (zar_div (by decide))).trans ?_
      refine (rn_a2 d_M_two_131 rfl).trans ?_
      refine (rn_ld d_M_two_132 rfl rfl rfl rfl).trans ?_
      refine (rn_push d_M_two_133 zcs_iconst_5).trans ?_
      refine (rn_a2 d_M_two_134 (zar_rem (by decide))).trans ?_
      refine (rn_a2 d_M_two_135 rfl).trans ?_
      exact rn_ri d_M_two_136 rfl
theorem e_M_two {X : zX} {x1 : Int32} {x2 : Int32} {h : zH} : zcf X m_M_two [.ref 123, .int x1, .int x2] h = (zbI (zcf X m_M_areTwo [.ref 123, .int x1, .int x2] ((zup h.1 123 7 0), h.2)) fun v2 h1 => (if v2 = 0 then (zbI (zcf X m_M_refuse [.ref 123, .int (-1)] h1) fun v4 h3 => (some (some (.int v4), h3))) else (zbV (zcf X m_M_think [.ref 123] h1) fun h5 => zrn X 4 m_M_two 26 [some (.ref 123), some (.int x1), some (.int x2), some (.int 0), none] [] h5))) := by
  refine (zcf_run (Nat.le_of_ble_eq_true rfl)).trans ?_
  show zrn X 4 m_M_two 0 [some (.ref 123), some (.int x1), some (.int x2), none, none] [] h = _
  refine (rn_ld d_M_two_0 rfl rfl rfl rfl).trans ?_
  refine (rn_push d_M_two_1 zcs_iconst_0).trans ?_
  refine (rn_pi d_M_two_2 f_4_61 zc_123).trans ?_
  refine (rn_ld d_M_two_5 rfl rfl rfl rfl).trans ?_
  refine (rn_ld d_M_two_6 rfl rfl rfl rfl).trans ?_
  refine (rn_ld d_M_two_7 rfl rfl rfl rfl).trans ?_
  refine (rn_vI d_M_two_8 (zinv_v l_4_247 (by decide) (Nat.le_of_ble_eq_true rfl) rfl rfl zc_123 (Nat.le_of_ble_eq_true rfl)) (Nat.le_of_ble_eq_true rfl) (Or.inr rfl)).trans (zbI_congr fun v2 h1 => ?_)
  refine (rn_if_ne d_M_two_11 (t := 20) (by decide)).trans (zif ?_ ?_)
  · refine (rn_ld d_M_two_14 rfl rfl rfl rfl).trans ?_
    refine (rn_push d_M_two_15 zcs_iconst_m1).trans ?_
    refine (rn_vI d_M_two_16 (zinv_v l_4_123 (by decide) (Nat.le_of_ble_eq_true rfl) rfl rfl zc_123 (Nat.le_of_ble_eq_true rfl)) (Nat.le_of_ble_eq_true rfl) (Or.inl rfl)).trans (zbI_congr fun v4 h3 => ?_)
    exact rn_ri d_M_two_19 rfl
  · refine (rn_ld d_M_two_20 rfl rfl rfl rfl).trans ?_
    refine (rn_vV d_M_two_21 (zinv_v l_4_168 (by decide) (Nat.le_of_ble_eq_true rfl) rfl rfl zc_123 (Nat.le_of_ble_eq_true rfl)) (Nat.le_of_ble_eq_true rfl) rfl).trans (zbV_congr fun h5 => ?_)
    refine (rn_push d_M_two_24 zcs_iconst_0).trans ?_
    refine (rn_st d_M_two_25 rfl rfl rfl (by decide) rfl (Nat.le_of_ble_eq_true rfl) (ls' := [some (.ref 123), some (.int x1), some (.int x2), some (.int 0), none]) rfl).trans ?_
    rfl
theorem e_M_areTwo {X : zX} {x1 : Int32} {x2 : Int32} {h : zH} : zcf X m_M_areTwo [.ref 123, .int x1, .int x2] h = (zbI (zcf X m_M_isOne [.ref 123, .int x1] h) fun v2 h1 => (if v2 = 0 then (some (some (.int 0), h1)) else (zbI (zcf X m_M_isOne [.ref 123, .int x2] h1) fun v4 h3 => (if v4 = 0 then (some (some (.int 0), h3)) else (if x1 = x2 then (some (some (.int 0), h3)) else (some (some (.int 1), h3))))))) := by
  refine (zcf_run (Nat.le_of_ble_eq_true rfl)).trans ?_
  show zrn X 2 m_M_areTwo 0 [some (.ref 123), some (.int x1), some (.int x2)] [] h = _
  refine (rn_ld d_M_areTwo_0 rfl rfl rfl rfl).trans ?_
  refine (rn_ld d_M_areTwo_1 rfl rfl rfl rfl).trans ?_
  refine (rn_vI d_M_areTwo_2 (zinv_v l_4_72 (by decide) (Nat.le_of_ble_eq_true rfl) rfl rfl zc_123 (Nat.le_of_ble_eq_true rfl)) (Nat.le_of_ble_eq_true rfl) (Or.inr rfl)).trans (zbI_congr fun v2 h1 => ?_)
  refine (rn_if_eq d_M_areTwo_5 (t := 25) (by decide)).trans (zif ?_ ?_)
  · refine (rn_push d_M_areTwo_25 zcs_iconst_0).trans ?_
    exact rn_rz d_M_areTwo_26 rfl (by decide)
  · refine (rn_ld d_M_areTwo_8 rfl rfl rfl rfl).trans ?_
    refine (rn_ld d_M_areTwo_9 rfl rfl rfl rfl).trans ?_
    refine (rn_vI d_M_areTwo_10 (zinv_v l_4_72 (by decide) (Nat.le_of_ble_eq_true rfl) rfl rfl zc_123 (Nat.le_of_ble_eq_true rfl)) (Nat.le_of_ble_eq_true rfl) (Or.inr rfl)).trans (zbI_congr fun v4 h3 => ?_)
    refine (rn_if_eq d_M_areTwo_13 (t := 25) (by decide)).trans (zif ?_ ?_)
    · refine (rn_push d_M_areTwo_25 zcs_iconst_0).trans ?_
      exact rn_rz d_M_areTwo_26 rfl (by decide)
    · refine (rn_ld d_M_areTwo_16 rfl rfl rfl rfl).trans ?_
      refine (rn_ld d_M_areTwo_17 rfl rfl rfl rfl).trans ?_
      refine (rn_ic_eq d_M_areTwo_18 (t := 25) (by decide)).trans (zif ?_ ?_)
      · refine (rn_push d_M_areTwo_25 zcs_iconst_0).trans ?_
        exact rn_rz d_M_areTwo_26 rfl (by decide)
      · refine (rn_push d_M_areTwo_21 zcs_iconst_1).trans ?_
        refine (rn_goto d_M_areTwo_22 (t := 26) (by decide)).trans ?_
        exact rn_rz d_M_areTwo_26 rfl (by decide)
theorem b_M_areResting_27 {X : zX} {x1 : Int32} {x2 : Int32} {x3 : Int32} {x4 : Int32} {x5 : Int32} {h : zH} : zrn X 0 m_M_areResting 27 [some (.ref 123), some (.int x1), some (.int x2), some (.int x3), some (.int x4), some (.int x5), none] [] h = (if 4 ≤ x5 then zrn X 0 m_M_areResting 74 [some (.ref 123), some (.int x1), some (.int x2), some (.int x3), some (.int x4), some (.int 0), none] [] h else (if x4 = 0 then zrn X 0 m_M_areResting 27 [some (.ref 123), some (.int x1), some (.int x2), some (.int x3), some (.int 0), some (.int (x5 + 1)), none] [] h else (if zin ((5 * x5) + x3) 20 = true then (if zin x1 20 = true then zrn X 0 m_M_areResting 27 [some (.ref 123), some (.int x1), some (.int x2), some (.int x3), some (.int (if (h.1 140 (Int32.toNatClampNeg x1)) < (h.1 140 (Int32.toNatClampNeg ((5 * x5) + x3))) then (0 : Int32) else 1)), some (.int (x5 + 1)), none] [] h else none) else none))) := by
  refine (rn_ld d_M_areResting_27 rfl rfl rfl rfl).trans ?_
  refine (rn_push d_M_areResting_29 zcs_iconst_4).trans ?_
  refine (rn_ic_ge d_M_areResting_30 (t := 71) (by decide)).trans (zif ?_ ?_)
  · refine (rn_push d_M_areResting_71 zcs_iconst_0).trans ?_
    refine (rn_st d_M_areResting_72 rfl rfl rfl (by decide) rfl (Nat.le_of_ble_eq_true rfl) (ls' := [some (.ref 123), some (.int x1), some (.int x2), some (.int x3), some (.int x4), some (.int 0), none]) rfl).trans ?_
    rfl
  · refine (rn_ld d_M_areResting_33 rfl rfl rfl rfl).trans ?_
    refine (rn_if_eq d_M_areResting_35 (t := 62) (by decide)).trans (zif ?_ ?_)
    · refine (rn_push d_M_areResting_62 zcs_iconst_0).trans ?_
      refine (rn_st d_M_areResting_63 rfl rfl rfl (by decide) rfl (Nat.le_of_ble_eq_true rfl) (ls' := [some (.ref 123), some (.int x1), some (.int x2), some (.int x3), some (.int 0), some (.int x5), none]) rfl).trans ?_
      refine (rn_inc d_M_areResting_65 rfl (c := 1) (by decide) (ls' := [some (.ref 123), some (.int x1), some (.int x2), some (.int x3), some (.int 0), some (.int (x5 + 1)), none]) rfl).trans ?_
      refine (rn_goto d_M_areResting_68 (t := 27) (by decide)).trans ?_
      rfl
    · refine (rn_ld d_M_areResting_38 rfl rfl rfl rfl).trans ?_
      refine (rn_gr d_M_areResting_39 f_4_58 zc_123 zr_123_33).trans ?_
      refine (rn_push d_M_areResting_42 zcs_iconst_5).trans ?_
      refine (rn_ld d_M_areResting_43 rfl rfl rfl rfl).trans ?_
      refine (rn_a2 d_M_areResting_45 rfl).trans ?_
      refine (rn_ld d_M_areResting_46 rfl rfl rfl rfl).trans ?_
      refine (rn_a2 d_M_areResting_47 rfl).trans ?_
      refine (rn_ial d_M_areResting_48 (by decide) zc_140).trans (zif ?_ rfl)
      refine (rn_ld d_M_areResting_49 rfl rfl rfl rfl).trans ?_
      refine (rn_gr d_M_areResting_50 f_4_58 zc_123 zr_123_33).trans ?_
      refine (rn_ld d_M_areResting_53 rfl rfl rfl rfl).trans ?_
      refine (rn_ial d_M_areResting_54 (by decide) zc_140).trans (zif ?_ rfl)
      refine Eq.trans (b := zrn X 0 m_M_areResting 63 [some (.ref 123), some (.int x1), some (.int x2), some (.int x3), some (.int x4), some (.int x5), none] [.int (if (h.1 140 (Int32.toNatClampNeg x1)) < (h.1 140 (Int32.toNatClampNeg ((5 * x5) + x3))) then (0 : Int32) else 1)] h) ?_ ?_
      · refine (rn_ic_gt d_M_areResting_55 (t := 62) (by decide)).trans ?_
        by_cases q1 : (h.1 140 (Int32.toNatClampNeg x1)) < (h.1 140 (Int32.toNatClampNeg ((5 * x5) + x3)))
        · simp only [if_pos q1]
          refine (rn_push d_M_areResting_62 zcs_iconst_0).trans ?_
          all_goals rfl
        · simp only [if_neg q1]
          refine (rn_push d_M_areResting_58 zcs_iconst_1).trans ?_
          refine (rn_goto d_M_areResting_59 (t := 63) (by decide)).trans ?_
          all_goals rfl
      refine (rn_st d_M_areResting_63 rfl rfl rfl (by decide) rfl (Nat.le_of_ble_eq_true rfl) (ls' := [some (.ref 123), some (.int x1), some (.int x2), some (.int x3), some (.int (if (h.1 140 (Int32.toNatClampNeg x1)) < (h.1 140 (Int32.toNatClampNeg ((5 * x5) + x3))) then (0 : Int32) else 1)), some (.int x5), none]) rfl).trans ?_
      refine (rn_inc d_M_areResting_65 rfl (c := 1) (by decide) (ls' := [some (.ref 123), some (.int x1), some (.int x2), some (.int x3), some (.int (if (h.1 140 (Int32.toNatClampNeg x1)) < (h.1 140 (Int32.toNatClampNeg ((5 * x5) + x3))) then (0 : Int32) else 1)), some (.int (x5 + 1)), none]) rfl).trans ?_
      refine (rn_goto d_M_areResting_68 (t := 27) (by decide)).trans ?_
      rfl
theorem b_M_areResting_74 {X : zX} {x1 : Int32} {x2 : Int32} {x3 : Int32} {x4 : Int32} {x5 : Int32} {g6 : Option Value} {h : zH} : zrn X 0 m_M_areResting 74 [some (.ref 123), some (.int x1), some (.int x2), some (.int x3), some (.int x4), some (.int x5), g6] [] h = (if 5 ≤ x5 then (if x4 = 0 ∨ x4 = 1 then (some (some (.int x4), h)) else none) else (if zin ((5 * x2) + x5) 20 = true then (if x4 = 0 then zrn X 0 m_M_areResting 74 [some (.ref 123), some (.int x1), some (.int x2), some (.int x3), some (.int 0), some (.int (x5 + 1)), some (.int (h.1 140 (Int32.toNatClampNeg ((5 * x2) + x5))))] [] h else (if (h.1 140 (Int32.toNatClampNeg ((5 * x2) + x5))) < 0 then zrn X 0 m_M_areResting 74 [some (.ref 123), some (.int x1), some (.int x2), some (.int x3), some (.int 1), some (.int (x5 + 1)), some (.int (h.1 140 (Int32.toNatClampNeg ((5 * x2) + x5))))] [] h else (if zin x1 20 = true then zrn X 0 m_M_areResting 74 [some (.ref 123), some (.int x1), some (.int x2), some (.int x3), some (.int (if (h.1 140 (Int32.toNatClampNeg ((5 * x2) + x5))) < (h.1 140 (Int32.toNatClampNeg x1)) then (0 : Int32) else 1)), some (.int (x5 + 1)), some (.int (h.1 140 (Int32.toNatClampNeg ((5 * x2) + x5))))] [] h else none))) else none)) := by
  refine (rn_ld d_M_areResting_74 rfl rfl rfl rfl).trans ?_
  refine (rn_push d_M_areResting_76 zcs_iconst_5).trans ?_
  refine (rn_ic_ge d_M_areResting_77 (t := 127) (by decide)).trans (zif ?_ ?_)
  · refine (rn_ld d_M_areResting_127 rfl rfl rfl rfl).trans ?_
    exact rn_rzg d_M_areResting_129 rfl
  · refine (rn_ld d_M_areResting_80 rfl rfl rfl rfl).trans ?_
    refine (rn_gr d_M_areResting_81 f_4_58 zc_123 zr_123_33).trans ?_
    refine (rn_push d_M_areResting_84 zcs_iconst_5).trans ?_
    refine (rn_ld d_M_areResting_85 rfl rfl rfl rfl).trans ?_
    refine (rn_a2 d_M_areResting_86 rfl).trans ?_
    refine (rn_ld d_M_areResting_87 rfl rfl rfl rfl).trans ?_
    refine (rn_a2 d_M_areResting_89 rfl).trans ?_
    refine (rn_ial d_M_areResting_90 (by decide) zc_140).trans (zif ?_ rfl)
    refine (rn_st d_M_areResting_91 rfl rfl rfl (by decide) rfl (Nat.le_of_ble_eq_true rfl) (ls' := [some (.ref 123), some (.int x1), some (.int x2), some (.int x3), some (.int x4), some (.int x5), some (.int (h.1 140 (Int32.toNatClampNeg ((5 * x2) + x5))))]) rfl).trans ?_
    refine (rn_ld d_M_areResting_93 rfl rfl rfl rfl).trans ?_
    refine (rn_if_eq d_M_areResting_95 (t := 118) (by decide)).trans (zif ?_ ?_)
    · refine (rn_push d_M_areResting_118 zcs_iconst_0).trans ?_
      refine (rn_st d_M_areResting_119 rfl rfl rfl (by decide) rfl (Nat.le_of_ble_eq_true rfl) (ls' := [some (.ref 123), some (.int x1), some (.int x2), some (.int x3), some (.int 0), some (.int x5), some (.int (h.1 140 (Int32.toNatClampNeg ((5 * x2) + x5))))]) rfl).trans ?_
      refine (rn_inc d_M_areResting_121 rfl (c := 1) (by decide) (ls' := [some (.ref 123), some (.int x1), some (.int x2), some (.int x3), some (.int 0), some (.int (x5 + 1)), some (.int (h.1 140 (Int32.toNatClampNeg ((5 * x2) + x5))))]) rfl).trans ?_
      refine (rn_goto d_M_areResting_124 (t := 74) (by decide)).trans ?_
      rfl
    · refine (rn_ld d_M_areResting_98 rfl rfl rfl rfl).trans ?_
      refine (rn_if_lt d_M_areResting_100 (t := 114) (by decide)).trans (zif ?_ ?_)
      · refine (rn_push d_M_areResting_114 zcs_iconst_1).trans ?_
        refine (rn_goto d_M_areResting_115 (t := 119) (by decide)).trans ?_
        refine (rn_st d_M_areResting_119 rfl rfl rfl (by decide) rfl (Nat.le_of_ble_eq_true rfl) (ls' := [some (.ref 123), some (.int x1), some (.int x2), some (.int x3), some (.int 1), some (.int x5), some (.int (h.1 140 (Int32.toNatClampNeg ((5 * x2) + x5))))]) rfl).trans ?_
        refine (rn_inc d_M_areResting_121 rfl (c := 1) (by decide) (ls' := [some (.ref 123), some (.int x1), some (.int x2), some (.int x3), some (.int 1), some (.int (x5 + 1)), some (.int (h.1 140 (Int32.toNatClampNeg ((5 * x2) + x5))))]) rfl).trans ?_
        refine (rn_goto d_M_areResting_124 (t := 74) (by decide)).trans ?_
        rfl
      · refine (rn_ld d_M_areResting_103 rfl rfl rfl rfl).trans ?_
        refine (rn_ld d_M_areResting_105 rfl rfl rfl rfl).trans ?_
        refine (rn_gr d_M_areResting_106 f_4_58 zc_123 zr_123_33).trans ?_
        refine (rn_ld d_M_areResting_109 rfl rfl rfl rfl).trans ?_
        refine (rn_ial d_M_areResting_110 (by decide) zc_140).trans (zif ?_ rfl)
        refine Eq.trans (b := zrn X 0 m_M_areResting 119 [some (.ref 123), some (.int x1), some (.int x2), some (.int x3), some (.int x4), some (.int x5), some (.int (h.1 140 (Int32.toNatClampNeg ((5 * x2) + x5))))] [.int (if (h.1 140 (Int32.toNatClampNeg ((5 * x2) + x5))) < (h.1 140 (Int32.toNatClampNeg x1)) then (0 : Int32) else 1)] h) ?_ ?_
        · refine (rn_ic_lt d_M_areResting_111 (t := 118) (by decide)).trans ?_
          by_cases q1 : (h.1 140 (Int32.toNatClampNeg ((5 * x2) + x5))) < (h.1 140 (Int32.toNatClampNeg x1))
          · simp only [if_pos q1]
            refine (rn_push d_M_areResting_118 zcs_iconst_0).trans ?_
            all_goals rfl
          · simp only [if_neg q1]
            refine (rn_push d_M_areResting_114 zcs_iconst_1).trans ?_
            refine (rn_goto d_M_areResting_115 (t := 119) (by decide)).trans ?_
            all_goals rfl
        refine (rn_st d_M_areResting_119 rfl rfl rfl (by decide) rfl (Nat.le_of_ble_eq_true rfl) (ls' := [some (.ref 123), some (.int x1), some (.int x2), some (.int x3), some (.int (if (h.1 140 (Int32.toNatClampNeg ((5 * x2) + x5))) < (h.1 140 (Int32.toNatClampNeg x1)) then (0 : Int32) else 1)), some (.int x5), some (.int (h.1 140 (Int32.toNatClampNeg ((5 * x2) + x5))))]) rfl).trans ?_
        refine (rn_inc d_M_areResting_121 rfl (c := 1) (by decide) (ls' := [some (.ref 123), some (.int x1), some (.int x2), some (.int x3), some (.int (if (h.1 140 (Int32.toNatClampNeg ((5 * x2) + x5))) < (h.1 140 (Int32.toNatClampNeg x1)) then (0 : Int32) else 1)), some (.int (x5 + 1)), some (.int (h.1 140 (Int32.toNatClampNeg ((5 * x2) + x5))))]) rfl).trans ?_
        refine (rn_goto d_M_areResting_124 (t := 74) (by decide)).trans ?_
        rfl
theorem e_M_areResting {X : zX} {x1 : Int32} {h : zH} : zcf X m_M_areResting [.ref 123, .int x1] h = (if zin x1 20 = true then zrn X 0 m_M_areResting 27 [some (.ref 123), some (.int x1), some (.int (x1 / 5)), some (.int (zrem x1 5)), some (.int (if (h.1 140 (Int32.toNatClampNeg x1)) < 0 then (0 : Int32) else 1)), some (.int 0), none] [] h else none) := by
  refine (zcf_run (Nat.le_of_ble_eq_true rfl)).trans ?_
  show zrn X 0 m_M_areResting 0 [some (.ref 123), some (.int x1), none, none, none, none, none] [] h = _
  refine (rn_ld d_M_areResting_0 rfl rfl rfl rfl).trans ?_
  refine (rn_push d_M_areResting_1 zcs_iconst_5).trans ?_
  refine (rn_a2 d_M_areResting_2 (zar_div (by decide))).trans ?_
  refine (rn_st d_M_areResting_3 rfl rfl rfl (by decide) rfl (Nat.le_of_ble_eq_true rfl) (ls' := [some (.ref 123), some (.int x1), some (.int (x1 / 5)), none, none, none, none]) rfl).trans ?_
  refine (rn_ld d_M_areResting_4 rfl rfl rfl rfl).trans ?_
  refine (rn_push d_M_areResting_5 zcs_iconst_5).trans ?_
  refine (rn_a2 d_M_areResting_6 (zar_rem (by decide))).trans ?_
  refine (rn_st d_M_areResting_7 rfl rfl rfl (by decide) rfl (Nat.le_of_ble_eq_true rfl) (ls' := [some (.ref 123), some (.int x1), some (.int (x1 / 5)), some (.int (zrem x1 5)), none, none, none]) rfl).trans ?_
  refine (rn_ld d_M_areResting_8 rfl rfl rfl rfl).trans ?_
  refine (rn_gr d_M_areResting_9 f_4_58 zc_123 zr_123_33).trans ?_
  refine (rn_ld d_M_areResting_12 rfl rfl rfl rfl).trans ?_
  refine (rn_ial d_M_areResting_13 (by decide) zc_140).trans (zif ?_ rfl)
  refine Eq.trans (b := zrn X 0 m_M_areResting 22 [some (.ref 123), some (.int x1), some (.int (x1 / 5)), some (.int (zrem x1 5)), none, none, none] [.int (if (h.1 140 (Int32.toNatClampNeg x1)) < 0 then (0 : Int32) else 1)] h) ?_ ?_
  · refine (rn_if_lt d_M_areResting_14 (t := 21) (by decide)).trans ?_
    by_cases q1 : (h.1 140 (Int32.toNatClampNeg x1)) < 0
    · simp only [if_pos q1]
      refine (rn_push d_M_areResting_21 zcs_iconst_0).trans ?_
      all_goals rfl
    · simp only [if_neg q1]
      refine (rn_push d_M_areResting_17 zcs_iconst_1).trans ?_
      refine (rn_goto d_M_areResting_18 (t := 22) (by decide)).trans ?_
      all_goals rfl
  refine (rn_st d_M_areResting_22 rfl rfl rfl (by decide) rfl (Nat.le_of_ble_eq_true rfl) (ls' := [some (.ref 123), some (.int x1), some (.int (x1 / 5)), some (.int (zrem x1 5)), some (.int (if (h.1 140 (Int32.toNatClampNeg x1)) < 0 then (0 : Int32) else 1)), none, none]) rfl).trans ?_
  refine (rn_push d_M_areResting_24 zcs_iconst_0).trans ?_
  refine (rn_st d_M_areResting_25 rfl rfl rfl (by decide) rfl (Nat.le_of_ble_eq_true rfl) (ls' := [some (.ref 123), some (.int x1), some (.int (x1 / 5)), some (.int (zrem x1 5)), some (.int (if (h.1 140 (Int32.toNatClampNeg x1)) < 0 then (0 : Int32) else 1)), some (.int 0), none]) rfl).trans ?_
  rfl
theorem b_M_slept_104 {X : zX} {x1 : Int32} {x2 : Int32} {x3 : Int32} {x4 : Int32} {x5 : Int32} {x6 : Int32} {x7 : Int64} {x9 : Int64} {x11 : Int32} {h : zH} : zrn X 6 m_M_slept 104 [some (.ref 123), some (.int x1), some (.int x2), some (.int x3), some (.int x4), some (.int x5), some (.int x6), some (.long x7), none, some (.long x9), none, some (.int x11), none, none, none] [] h = (if x3 ≤ x11 then (zbV (zcf X m_M_think [.ref 123] h) fun h1 => zrn X 6 m_M_slept 131 [some (.ref 123), some (.int x1), some (.int x2), some (.int x3), some (.int x4), some (.int x5), some (.int x6), some (.long x7), none, some (.long x9), none, some (.int 0), none, none, none] [] h1) else zrn X 6 m_M_slept 104 [some (.ref 123), some (.int x1), some (.int x2), some (.int x3), some (.int x4), some (.int x5), some (.int x6), some (.long x7), none, some (.long (x9 * (Int32.toInt64 x4))), none, some (.int (x11 + 1)), none, none, none] [] h) := by
  refine (rn_ld d_M_slept_104 rfl rfl rfl rfl).trans ?_
  refine (rn_ld d_M_slept_106 rfl rfl rfl rfl).trans ?_
  refine (rn_ic_ge d_M_slept_107 (t := 124) (by decide)).trans (zif ?_ ?_)
  · refine (rn_ld d_M_slept_124 rfl rfl rfl rfl).trans ?_
    refine (rn_vV d_M_slept_125 (zinv_v l_4_168 (by decide) (Nat.le_of_ble_eq_true rfl) rfl rfl zc_123 (Nat.le_of_ble_eq_true rfl)) (Nat.le_of_ble_eq_true rfl) rfl).trans (zbV_congr fun h1 => ?_)
    refine (rn_push d_M_slept_128 zcs_iconst_0).trans ?_
    refine (rn_st d_M_slept_129 rfl rfl rfl (by decide) rfl (Nat.le_of_ble_eq_true rfl) (ls' := [some (.ref 123), some (.int x1), some (.int x2), some (.int x3), some (.int x4), some (.int x5), some (.int x6), some (.long x7), none, some (.long x9), none, some (.int 0), none, none, none]) rfl).trans ?_
    rfl
  · refine (rn_ld d_M_slept_110 rfl rfl rfl rfl).trans ?_
    refine (rn_ld d_M_slept_112 rfl rfl rfl rfl).trans ?_
    refine (rn_i2l d_M_slept_114).trans ?_
    refine (rn_al d_M_slept_115 rfl).trans ?_
    refine (rn_st2 d_M_slept_116 rfl rfl rfl (Nat.le_of_ble_eq_true rfl) (ls' := [some (.ref 123), some (.int x1), some (.int x2), some (.int x3), some (.int x4), some (.int x5), some (.int x6), some (.long x7), none, some (.long (x9 * (Int32.toInt64 x4))), none, some (.int x11), none, none, none]) rfl).trans ?_
    refine (rn_inc d_M_slept_118 rfl (c := 1) (by decide) (ls' := [some (.ref 123), some (.int x1), some (.int x2), some (.int x3), some (.int x4), some (.int x5), some (.int x6), some (.long x7), none, some (.long (x9 * (Int32.toInt64 x4))), none, some (.int (x11 + 1)), none, none, none]) rfl).trans ?_
    refine (rn_goto d_M_slept_121 (t := 104) (by decide)).trans ?_
    rfl
theorem b_M_slept_131 {X : zX} {x1 : Int32} {x2 : Int32} {x3 : Int32} {x4 : Int32} {x5 : Int32} {x6 : Int32} {x7 : Int64} {x9 : Int64} {x11 : Int32} {g12 : Option Value} {g14 : Option Value} {h : zH} : zrn X 6 m_M_slept 131 [some (.ref 123), some (.int x1), some (.int x2), some (.int x3), some (.int x4), some (.int x5), some (.int x6), some (.long x7), none, some (.long x9), none, some (.int x11), g12, none, g14] [] h = (if ((1 : Int32) <<< (x3 &&& 31)) ≤ x11 then (zbL (zcf X m_M_partOf [.long x7, .long x9, .int x5] h) fun v2 h1 => (some (some (.long v2), h1))) else zrn X 6 m_M_slept 145 [some (.ref 123), some (.int x1), some (.int x2), some (.int x3), some (.int x4), some (.int x5), some (.int x6), some (.long x7), none, some (.long x9), none, some (.int x11), some (.long 1), none, some (.int 0)] [] h) := by
  refine (rn_ld d_M_slept_131 rfl rfl rfl rfl).trans ?_
  refine (rn_push d_M_slept_133 zcs_iconst_1).trans ?_
  refine (rn_ld d_M_slept_134 rfl rfl rfl rfl).trans ?_
  refine (rn_a2 d_M_slept_135 rfl).trans ?_
  refine (rn_ic_ge d_M_slept_136 (t := 232) (by decide)).trans (zif ?_ ?_)
  · refine (rn_ld d_M_slept_232 rfl rfl rfl rfl).trans ?_
    refine (rn_ld d_M_slept_234 rfl rfl rfl rfl).trans ?_
    refine (rn_ld d_M_slept_236 rfl rfl rfl rfl).trans ?_
    refine (rn_sL d_M_slept_238 nb_4_259 (zinv_s l_4_259 (by decide) (Nat.le_of_ble_eq_true rfl) rfl rfl (Nat.le_of_ble_eq_true rfl)) (Nat.le_of_ble_eq_true rfl) rfl).trans (zbL_congr fun v2 h1 => ?_)
    exact rn_rl d_M_slept_241 rfl
  · refine (rn_push d_M_slept_139 zcs_lconst_1).trans ?_
    refine (rn_st2 d_M_slept_140 rfl rfl rfl (Nat.le_of_ble_eq_true rfl) (ls' := [some (.ref 123), some (.int x1), some (.int x2), some (.int x3), some (.int x4), some (.int x5), some (.int x6), some (.long x7), none, some (.long x9), none, some (.int x11), some (.long 1), none, g14]) rfl).trans ?_
    refine (rn_push d_M_slept_142 zcs_iconst_0).trans ?_
    refine (rn_st d_M_slept_143 rfl rfl rfl (by decide) rfl (Nat.le_of_ble_eq_true rfl) (ls' := [some (.ref 123), some (.int x1), some (.int x2), some (.int x3), some (.int x4), some (.int x5), some (.int x6), some (.long x7), none, some (.long x9), none, some (.int x11), some (.long 1), none, some (.int 0)]) rfl).trans ?_
    rfl
theorem b_M_slept_145 {X : zX} {x1 : Int32} {x2 : Int32} {x3 : Int32} {x4 : Int32} {x5 : Int32} {x6 : Int32} {x7 : Int64} {x9 : Int64} {x11 : Int32} {x12 : Int64} {x14 : Int32} {h : zH} : zrn X 6 m_M_slept 145 [some (.ref 123), some (.int x1), some (.int x2), some (.int x3), some (.int x4), some (.int x5), some (.int x6), some (.long x7), none, some (.long x9), none, some (.int x11), some (.long x12), none, some (.int x14)] [] h = (if x3 ≤ x14 then (if zin x1 7 = true then (zbV (zcf X m_M_again [.ref 123] h) fun h2 => zrn X 6 m_M_slept 131 [some (.ref 123), some (.int x1), some (.int x2), some (.int x3), some (.int x4), some (.int x5), some (.int x6), some (.long (x7 + (if (h.1 127 (Int32.toNatClampNeg x1)) = x2 then x12 else 0))), none, some (.long x9), none, some (.int (x11 + 1)), some (.long x12), none, some (.int x14)] [] h2) else none) else (zbI (zcf X m_M_hasBit [.int x11, .int x14] h) fun v4 h3 => (zbI (zcf X m_M_hasBit [.int x11, .int x14] h3) fun v7 h6 => (zbV (zcf X m_M_nightBy [.ref 123, .int (if v7 = 0 then (-9 : Int32) else x1)] h6) fun h9 => zrn X 6 m_M_slept 145 [some (.ref 123), some (.int x1), some (.int x2), some (.int x3), some (.int x4), some (.int x5), some (.int x6), some (.long x7), none, some (.long x9), none, some (.int x11), some (.long (x12 * (if v4 = 0 then (Int32.toInt64 (x4 - 1)) else 1))), none, some (.int (x14 + 1))] [] h9)))) := by
  refine (rn_ld d_M_slept_145 rfl rfl rfl rfl).trans ?_
  refine (rn_ld d_M_slept_147 rfl rfl rfl rfl).trans ?_
  refine (rn_ic_ge d_M_slept_148 (t := 201) (by decide)).trans (zif ?_ ?_)
  · refine (rn_ld d_M_slept_201 rfl rfl rfl rfl).trans ?_
    refine (rn_ld d_M_slept_203 rfl rfl rfl rfl).trans ?_
    refine (rn_gr d_M_slept_204 f_4_19 zc_123 zr_123_4).trans ?_
    refine (rn_ld d_M_slept_207 rfl rfl rfl rfl).trans ?_
    refine (rn_ial d_M_slept_208 (by decide) zc_127).trans (zif ?_ rfl)
    refine (rn_ld d_M_slept_209 rfl rfl rfl rfl).trans ?_
    refine Eq.trans (b := zrn X 6 m_M_slept 219 [some (.ref 123), some (.int x1), some (.int x2), some (.int x3), some (.int x4), some (.int x5), some (.int x6), some (.long x7), none, some (.long x9), none, some (.int x11), some (.long x12), none, some (.int x14)] [.long (if (h.1 127 (Int32.toNatClampNeg x1)) = x2 then x12 else 0), .long x7] h) ?_ ?_
    · refine (rn_ic_ne d_M_slept_210 (t := 218) (by decide)).trans ?_
      by_cases q1 : (h.1 127 (Int32.toNatClampNeg x1)) = x2
      · simp only [if_pos q1]
        refine (rn_ld d_M_slept_213 rfl rfl rfl rfl).trans ?_
        refine (rn_goto d_M_slept_215 (t := 219) (by decide)).trans ?_
        all_goals rfl
      · simp only [if_neg q1]
        refine (rn_push d_M_slept_218 zcs_lconst_0).trans ?_
        all_goals rfl
    refine (rn_al d_M_slept_219 rfl).trans ?_
    refine (rn_st2 d_M_slept_220 rfl rfl rfl (Nat.le_of_ble_eq_true rfl) (ls' := [some (.ref 123), some (.int x1), some (.int x2), some (.int x3), some (.int x4), some (.int x5), some (.int x6), some (.long (x7 + (if (h.1 127 (Int32.toNatClampNeg x1)) = x2 then x12 else 0))), none, some (.long x9), none, some (.int x11), some (.long x12), none, some (.int x14)]) rfl).trans ?_
    refine (rn_ld d_M_slept_222 rfl rfl rfl rfl).trans ?_
    refine (rn_vV d_M_slept_223 (zinv_v l_4_174 (by decide) (Nat.le_of_ble_eq_true rfl) rfl rfl zc_123 (Nat.le_of_ble_eq_true rfl)) (Nat.le_of_ble_eq_true rfl) rfl).trans (zbV_congr fun h2 => ?_)
    refine (rn_inc d_M_slept_226 rfl (c := 1) (by decide) (ls' := [some (.ref 123), some (.int x1), some (.int x2), some (.int x3), some (.int x4), some (.int x5), some (.int x6), some (.long (x7 + (if (h.1 127 (Int32.toNatClampNeg x1)) = x2 then x12 else 0))), none, some (.long x9), none, some (.int (x11 + 1)), some (.long x12), none, some (.int x14)]) rfl).trans ?_
    refine (rn_goto d_M_slept_229 (t := 131) (by decide)).trans ?_
    rfl
  · refine (rn_ld d_M_slept_151 rfl rfl rfl rfl).trans ?_
    refine (rn_ld d_M_slept_153 rfl rfl rfl rfl).trans ?_
    refine (rn_ld d_M_slept_155 rfl rfl rfl rfl).trans ?_
    refine (rn_sI d_M_slept_157 nb_4_221 (zinv_s l_4_221 (by decide) (Nat.le_of_ble_eq_true rfl) rfl rfl (Nat.le_of_ble_eq_true rfl)) (Nat.le_of_ble_eq_true rfl) (Or.inr rfl)).trans (zbI_congr fun v4 h3 => ?_)
    refine Eq.trans (b := zrn X 6 m_M_slept 172 [some (.ref 123), some (.int x1), some (.int x2), some (.int x3), some (.int x4), some (.int x5), some (.int x6), some (.long x7), none, some (.long x9), none, some (.int x11), some (.long x12), none, some (.int x14)] [.long (if v4 = 0 then (Int32.toInt64 (x4 - 1)) else 1), .long x12] h3) ?_ ?_
    · refine (rn_if_eq d_M_slept_160 (t := 167) (by decide)).trans ?_
      by_cases q5 : v4 = 0
      · simp only [if_pos q5]
        refine (rn_ld d_M_slept_167 rfl rfl rfl rfl).trans ?_
        refine (rn_push d_M_slept_169 zcs_iconst_1).trans ?_
        refine (rn_a2 d_M_slept_170 rfl).trans ?_
        refine (rn_i2l d_M_slept_171).trans ?_
        all_goals rfl
      · simp only [if_neg q5]
        refine (rn_push d_M_slept_163 zcs_lconst_1).trans ?_
        refine (rn_goto d_M_slept_164 (t := 172) (by decide)).trans ?_
        all_goals rfl
    refine (rn_al d_M_slept_172 rfl).trans ?_
    refine (rn_st2 d_M_slept_173 rfl rfl rfl (Nat.le_of_ble_eq_true rfl) (ls' := [some (.ref 123), some (.int x1), some (.int x2), some (.int x3), some (.int x4), some (.int x5), some (.int x6), some (.long x7), none, some (.long x9), none, some (.int x11), some (.long (x12 * (if v4 = 0 then (Int32.toInt64 (x4 - 1)) else 1))), none, some (.int x14)]) rfl).trans ?_
    refine (rn_ld d_M_slept_175 rfl rfl rfl rfl).trans ?_
    refine (rn_ld d_M_slept_176 rfl rfl rfl rfl).trans ?_
    refine (rn_ld d_M_slept_178 rfl rfl rfl rfl).trans ?_
    refine (rn_sI d_M_slept_180 nb_4_221 (zinv_s l_4_221 (by decide) (Nat.le_of_ble_eq_true rfl) rfl rfl (Nat.le_of_ble_eq_true rfl)) (Nat.le_of_ble_eq_true rfl) (Or.inr rfl)).trans (zbI_congr fun v7 h6 => ?_)
    refine Eq.trans (b := zrn X 6 m_M_slept 192 [some (.ref 123), some (.int x1), some (.int x2), some (.int x3), some (.int x4), some (.int x5), some (.int x6), some (.long x7), none, some (.long x9), none, some (.int x11), some (.long (x12 * (if v4 = 0 then (Int32.toInt64 (x4 - 1)) else 1))), none, some (.int x14)] [.int (if v7 = 0 then (-9 : Int32) else x1), .ref 123] h6) ?_ ?_
    · refine (rn_if_eq d_M_slept_183 (t := 190) (by decide)).trans ?_
      by_cases q8 : v7 = 0
      · simp only [if_pos q8]
        refine (rn_push d_M_slept_190 zcs_bipush_m9).trans ?_
        all_goals rfl
      · simp only [if_neg q8]
        refine (rn_ld d_M_slept_186 rfl rfl rfl rfl).trans ?_
        refine (rn_goto d_M_slept_187 (t := 192) (by decide)).trans ?_
        all_goals rfl
    refine (rn_vV d_M_slept_192 (zinv_v l_4_119 (by decide) (Nat.le_of_ble_eq_true rfl) rfl rfl zc_123 (Nat.le_of_ble_eq_true rfl)) (Nat.le_of_ble_eq_true rfl) rfl).trans (zbV_congr fun h9 => ?_)
    refine (rn_inc d_M_slept_195 rfl (c := 1) (by decide) (ls' := [some (.ref 123), some (.int x1), some (.int x2), some (.int x3), some (.int x4), some (.int x5), some (.int x6), some (.long x7), none, some (.long x9), none, some (.int x11), some (.long (x12 * (if v4 = 0 then (Int32.toInt64 (x4 - 1)) else 1))), none, some (.int (x14 + 1))]) rfl).trans ?_
    refine (rn_goto d_M_slept_198 (t := 145) (by decide)).trans ?_
    rfl
theorem e_M_slept {X : zX} {x1 : Int32} {x2 : Int32} {x3 : Int32} {x4 : Int32} {x5 : Int32} {h : zH} : zcf X m_M_slept [.ref 123, .int x1, .int x2, .int x3, .int x4, .int x5] h = (zbI (zcf X m_M_isOne [.ref 123, .int x1] ((zup h.1 123 7 0), h.2)) fun v2 h1 => (if v2 = 0 then (zbI (zcf X m_M_wrongBit [.int (-1), .int x5, .int 1] h1) fun v4 h3 => (if 0 ≤ v4 then zrn X 6 m_M_slept 104 [some (.ref 123), some (.int x1), some (.int x2), some (.int x3), some (.int x4), some (.int x5), some (.int v4), some (.long 0), none, some (.long 1), none, some (.int 0), none, none, none] [] h3 else (zbI (zcf X m_M_refuse [.ref 123, .int v4] h3) fun v6 h5 => (some (some (.long (4000000000000000000 - (Int32.toInt64 v6))), h5))))) else (zbI (zcf X m_M_in [.long (Int32.toInt64 x2), .long 0, .long 3] h1) fun v8 h7 => (zbI (zcf X m_M_wrongBit [.int (if v8 = 0 then (-1 : Int32) else (if x3 < 0 then (-4 : Int32) else (if 2 ≤ x4 then (if 8 < x3 then (-6 : Int32) else (if x4 ≤ 20 then (0 : Int32) else (-6))) else (-4)))), .int x5, .int 1] h7) fun v15 h14 => (if 0 ≤ v15 then zrn X 6 m_M_slept 104 [some (.ref 123), some (.int x1), some (.int x2), some (.int x3), some (.int x4), some (.int x5), some (.int v15), some (.long 0), none, some (.long 1), none, some (.int 0), none, none, none] [] h14 else (zbI (zcf X m_M_refuse [.ref 123, .int v15] h14) fun v17 h16 => (some (some (.long (4000000000000000000 - (Int32.toInt64 v17))), h16)))))))) := by
  refine (zcf_run (Nat.le_of_ble_eq_true rfl)).trans ?_
  show zrn X 6 m_M_slept 0 [some (.ref 123), some (.int x1), some (.int x2), some (.int x3), some (.int x4), some (.int x5), none, none, none, none, none, none, none, none, none] [] h = _
  refine (rn_ld d_M_slept_0 rfl rfl rfl rfl).trans ?_
  refine (rn_push d_M_slept_1 zcs_iconst_0).trans ?_
  refine (rn_pi d_M_slept_2 f_4_61 zc_123).trans ?_
  refine (rn_push d_M_slept_5 zcs_iconst_0).trans ?_
  refine (rn_st d_M_slept_6 rfl rfl rfl (by decide) rfl (Nat.le_of_ble_eq_true rfl) (ls' := [some (.ref 123), some (.int x1), some (.int x2), some (.int x3), some (.int x4), some (.int x5), some (.int 0), none, none, none, none, none, none, none, none]) rfl).trans ?_
  refine (rn_ld d_M_slept_8 rfl rfl rfl rfl).trans ?_
  refine (rn_ld d_M_slept_9 rfl rfl rfl rfl).trans ?_
  refine (rn_vI d_M_slept_10 (zinv_v l_4_72 (by decide) (Nat.le_of_ble_eq_true rfl) rfl rfl zc_123 (Nat.le_of_ble_eq_true rfl)) (Nat.le_of_ble_eq_true rfl) (Or.inr rfl)).trans (zbI_congr fun v2 h1 => ?_)
  refine (rn_if_eq d_M_slept_13 (t := 28) (by decide)).trans (zif ?_ ?_)
  · refine (rn_push d_M_slept_28 zcs_iconst_m1).trans ?_
    refine (rn_st d_M_slept_29 rfl rfl rfl (by decide) rfl (Nat.le_of_ble_eq_true rfl) (ls' := [some (.ref 123), some (.int x1), some (.int x2), some (.int x3), some (.int x4), some (.int x5), some (.int (-1)), none, none, none, none, none, none, none, none]) rfl).trans ?_
    refine (rn_goto d_M_slept_31 (t := 68) (by decide)).trans ?_
    refine (rn_ld d_M_slept_68 rfl rfl rfl rfl).trans ?_
    refine (rn_ld d_M_slept_70 rfl rfl rfl rfl).trans ?_
    refine (rn_push d_M_slept_72 zcs_iconst_1).trans ?_
    refine (rn_sI d_M_slept_73 nb_4_215 (zinv_s l_4_215 (by decide) (Nat.le_of_ble_eq_true rfl) rfl rfl (Nat.le_of_ble_eq_true rfl)) (Nat.le_of_ble_eq_true rfl) (Or.inl rfl)).trans (zbI_congr fun v4 h3 => ?_)
    refine (rn_st d_M_slept_76 rfl rfl rfl (by decide) rfl (Nat.le_of_ble_eq_true rfl) (ls' := [some (.ref 123), some (.int x1), some (.int x2), some (.int x3), some (.int x4), some (.int x5), some (.int v4), none, none, none, none, none, none, none, none]) rfl).trans ?_
    refine (rn_ld d_M_slept_78 rfl rfl rfl rfl).trans ?_
    refine (rn_if_ge d_M_slept_80 (t := 95) (by decide)).trans (zif ?_ ?_)
    · refine (rn_push d_M_slept_95 zcs_lconst_0).trans ?_
      refine (rn_st2 d_M_slept_96 rfl rfl rfl (Nat.le_of_ble_eq_true rfl) (ls' := [some (.ref 123), some (.int x1), some (.int x2), some (.int x3), some (.int x4), some (.int x5), some (.int v4), some (.long 0), none, none, none, none, none, none, none]) rfl).trans ?_
      refine (rn_push d_M_slept_98 zcs_lconst_1).trans ?_
      refine (rn_st2 d_M_slept_99 rfl rfl rfl (Nat.le_of_ble_eq_true rfl) (ls' := [some (.ref 123), some (.int x1), some (.int x2), some (.int x3), some (.int x4), some (.int x5), some (.int v4), some (.long 0), none, some (.long 1), none, none, none, none, none]) rfl).trans ?_
      refine (rn_push d_M_slept_101 zcs_iconst_0).trans ?_
      refine (rn_st d_M_slept_102 rfl rfl rfl (by decide) rfl (Nat.le_of_ble_eq_true rfl) (ls' := [some (.ref 123), some (.int x1), some (.int x2), some (.int x3), some (.int x4), some (.int x5), some (.int v4), some (.long 0), none, some (.long 1), none, some (.int 0), none, none, none]) rfl).trans ?_
      rfl
    · refine (rn_push d_M_slept_83 zcs_ldc2_4_257).trans ?_
      refine (rn_ld d_M_slept_86 rfl rfl rfl rfl).trans ?_
      refine (rn_ld d_M_slept_87 rfl rfl rfl rfl).trans ?_
      refine (rn_vI d_M_slept_89 (zinv_v l_4_123 (by decide) (Nat.le_of_ble_eq_true rfl) rfl rfl zc_123 (Nat.le_of_ble_eq_true rfl)) (Nat.le_of_ble_eq_true rfl) (Or.inl rfl)).trans (zbI_congr fun v6 h5 => ?_)
      refine (rn_i2l d_M_slept_92).trans ?_
      refine (rn_al d_M_slept_93 rfl).trans ?_
      exact rn_rl d_M_slept_94 rfl
  · refine (rn_ld d_M_slept_16 rfl rfl rfl rfl).trans ?_
    refine (rn_i2l d_M_slept_17).trans ?_
    refine (rn_push d_M_slept_18 zcs_lconst_0).trans ?_
    refine (rn_push d_M_slept_19 zcs_ldc2_4_207).trans ?_
    refine (rn_sI d_M_slept_22 nb_4_68 (zinv_s l_4_68 (by decide) (Nat.le_of_ble_eq_true rfl) rfl rfl (Nat.le_of_ble_eq_true rfl)) (Nat.le_of_ble_eq_true rfl) (Or.inr rfl)).trans (zbI_congr fun v8 h7 => ?_)
    refine Eq.trans (b := zrn X 6 m_M_slept 68 [some (.ref 123), some (.int x1), some (.int x2), some (.int x3), some (.int x4), some (.int x5), some (.int (if v8 = 0 then (-1 : Int32) else (if x3 < 0 then (-4 : Int32) else (if 2 ≤ x4 then (if 8 < x3 then (-6 : Int32) else (if x4 ≤ 20 then (0 : Int32) else (-6))) else (-4))))), none, none, none, none, none, none, none, none] [] h7) ?_ ?_
    · refine (rn_if_ne d_M_slept_25 (t := 34) (by decide)).trans ?_
      by_cases q9 : v8 = 0
      · simp only [if_pos q9]
        refine (rn_push d_M_slept_28 zcs_iconst_m1).trans ?_
        refine (rn_st d_M_slept_29 rfl rfl rfl (by decide) rfl (Nat.le_of_ble_eq_true rfl) (ls' := [some (.ref 123), some (.int x1), some (.int x2), some (.int x3), some (.int x4), some (.int x5), some (.int (-1)), none, none, none, none, none, none, none, none]) rfl).trans ?_
        refine (rn_goto d_M_slept_31 (t := 68) (by decide)).trans ?_
        all_goals rfl
      · simp only [if_neg q9]
        refine (rn_ld d_M_slept_34 rfl rfl rfl rfl).trans ?_
        refine (rn_if_lt d_M_slept_35 (t := 44) (by decide)).trans ?_
        by_cases q10 : x3 < 0
        · simp only [if_pos q10]
          refine (rn_push d_M_slept_44 zcs_bipush_m4).trans ?_
          refine (rn_st d_M_slept_46 rfl rfl rfl (by decide) rfl (Nat.le_of_ble_eq_true rfl) (ls' := [some (.ref 123), some (.int x1), some (.int x2), some (.int x3), some (.int x4), some (.int x5), some (.int (-4)), none, none, none, none, none, none, none, none]) rfl).trans ?_
          refine (rn_goto d_M_slept_48 (t := 68) (by decide)).trans ?_
          all_goals rfl
        · simp only [if_neg q10]
          refine (rn_ld d_M_slept_38 rfl rfl rfl rfl).trans ?_
          refine (rn_push d_M_slept_40 zcs_iconst_2).trans ?_
          refine (rn_ic_ge d_M_slept_41 (t := 51) (by decide)).trans ?_
          by_cases q11 : 2 ≤ x4
          · simp only [if_pos q11]
            refine (rn_ld d_M_slept_51 rfl rfl rfl rfl).trans ?_
            refine (rn_push d_M_slept_52 zcs_bipush_8).trans ?_
            refine (rn_ic_gt d_M_slept_54 (t := 64) (by decide)).trans ?_
            by_cases q12 : 8 < x3
            · simp only [if_pos q12]
              refine (rn_push d_M_slept_64 zcs_bipush_m6).trans ?_
              refine (rn_st d_M_slept_66 rfl rfl rfl (by decide) rfl (Nat.le_of_ble_eq_true rfl) (ls' := [some (.ref 123), some (.int x1), some (.int x2), some (.int x3), some (.int x4), some (.int x5), some (.int (-6)), none, none, none, none, none, none, none, none]) rfl).trans ?_
              all_goals rfl
            · simp only [if_neg q12]
              refine (rn_ld d_M_slept_57 rfl rfl rfl rfl).trans ?_
              refine (rn_push d_M_slept_59 zcs_bipush_20).trans ?_
              refine (rn_ic_le d_M_slept_61 (t := 68) (by decide)).trans ?_
              by_cases q13 : x4 ≤ 20
              · simp only [if_pos q13]
                all_goals rfl
              · simp only [if_neg q13]
                refine (rn_push d_M_slept_64 zcs_bipush_m6).trans ?_
                refine (rn_st d_M_slept_66 rfl rfl rfl (by decide) rfl (Nat.le_of_ble_eq_true rfl) (ls' := [some (.ref 123), some (.int x1), some (.int x2), some (.int x3), some (.int x4), some (.int x5), some (.int (-6)), none, none, none, none, none, none, none, none]) rfl).trans ?_
                all_goals rfl
          · simp only [if_neg q11]
            refine (rn_push d_M_slept_44 zcs_bipush_m4).trans ?_
            refine (rn_st d_M_slept_46 rfl rfl rfl (by decide) rfl (Nat.le_of_ble_eq_true rfl) (ls' := [some (.ref 123), some (.int x1), some (.int x2), some (.int x3), some (.int x4), some (.int x5), some (.int (-4)), none, none, none, none, none, none, none, none]) rfl).trans ?_
            refine (rn_goto d_M_slept_48 (t := 68) (by decide)).trans ?_
            all_goals rfl
    refine (rn_ld d_M_slept_68 rfl rfl rfl rfl).trans ?_
    refine (rn_ld d_M_slept_70 rfl rfl rfl rfl).trans ?_
    refine (rn_push d_M_slept_72 zcs_iconst_1).trans ?_
    refine (rn_sI d_M_slept_73 nb_4_215 (zinv_s l_4_215 (by decide) (Nat.le_of_ble_eq_true rfl) rfl rfl (Nat.le_of_ble_eq_true rfl)) (Nat.le_of_ble_eq_true rfl) (Or.inl rfl)).trans (zbI_congr fun v15 h14 => ?_)
    refine (rn_st d_M_slept_76 rfl rfl rfl (by decide) rfl (Nat.le_of_ble_eq_true rfl) (ls' := [some (.ref 123), some (.int x1), some (.int x2), some (.int x3), some (.int x4), some (.int x5), some (.int v15), none, none, none, none, none, none, none, none]) rfl).trans ?_
    refine (rn_ld d_M_slept_78 rfl rfl rfl rfl).trans ?_
    refine (rn_if_ge d_M_slept_80 (t := 95) (by decide)).trans (zif ?_ ?_)
    · refine (rn_push d_M_slept_95 zcs_lconst_0).trans ?_
      refine (rn_st2 d_M_slept_96 rfl rfl rfl (Nat.le_of_ble_eq_true rfl) (ls' := [some (.ref 123), some (.int x1), some (.int x2), some (.int x3), some (.int x4), some (.int x5), some (.int v15), some (.long 0), none, none, none, none, none, none, none]) rfl).trans ?_
      refine (rn_push d_M_slept_98 zcs_lconst_1).trans ?_
      refine (rn_st2 d_M_slept_99 rfl rfl rfl (Nat.le_of_ble_eq_true rfl) (ls' := [some (.ref 123), some (.int x1), some (.int x2), some (.int x3), some (.int x4), some (.int x5), some (.int v15), some (.long 0), none, some (.long 1), none, none, none, none, none]) rfl).trans ?_
      refine (rn_push d_M_slept_101 zcs_iconst_0).trans ?_
      refine (rn_st d_M_slept_102 rfl rfl rfl (by decide) rfl (Nat.le_of_ble_eq_true rfl) (ls' := [some (.ref 123), some (.int x1), some (.int x2), some (.int x3), some (.int x4), some (.int x5), some (.int v15), some (.long 0), none, some (.long 1), none, some (.int 0), none, none, none]) rfl).trans ?_
      rfl
    · refine (rn_push d_M_slept_83 zcs_ldc2_4_257).trans ?_
      refine (rn_ld d_M_slept_86 rfl rfl rfl rfl).trans ?_
      refine (rn_ld d_M_slept_87 rfl rfl rfl rfl).trans ?_
      refine (rn_vI d_M_slept_89 (zinv_v l_4_123 (by decide) (Nat.le_of_ble_eq_true rfl) rfl rfl zc_123 (Nat.le_of_ble_eq_true rfl)) (Nat.le_of_ble_eq_true rfl) (Or.inl rfl)).trans (zbI_congr fun v17 h16 => ?_)
      refine (rn_i2l d_M_slept_92).trans ?_
      refine (rn_al d_M_slept_93 rfl).trans ?_
      exact rn_rl d_M_slept_94 rfl
theorem e_M_partOf {X : zX} {x0 : Int64} {x2 : Int64} {x4 : Int32} {h : zH} : zcf X m_M_partOf [.long x0, .long x2, .int x4] h = (if (lg_cmp x0 0) = 0 then (some (some (.long (Int32.toInt64 x4)), h)) else (zbL (zcf X m_M_divisor [.long x0, .long x2] h) fun v2 h1 => (if x4 = 0 then (if v2 = 0 then none else (some (some (.long (x0 / v2)), h1))) else (if v2 = 0 then none else (some (some (.long (x2 / v2)), h1)))))) := by
  refine (zcf_run (Nat.le_of_ble_eq_true rfl)).trans ?_
  show zrn X 1 m_M_partOf 0 [some (.long x0), none, some (.long x2), none, some (.int x4), none, none] [] h = _
  refine (rn_ld d_M_partOf_0 rfl rfl rfl rfl).trans ?_
  refine (rn_push d_M_partOf_1 zcs_lconst_0).trans ?_
  refine (rn_lcmp d_M_partOf_2).trans ?_
  refine (rn_if_ne d_M_partOf_3 (t := 10) (by decide)).trans (zif ?_ ?_)
  · refine (rn_ld d_M_partOf_6 rfl rfl rfl rfl).trans ?_
    refine (rn_i2l d_M_partOf_8).trans ?_
    exact rn_rl d_M_partOf_9 rfl
  · refine (rn_ld d_M_partOf_10 rfl rfl rfl rfl).trans ?_
    refine (rn_ld d_M_partOf_11 rfl rfl rfl rfl).trans ?_
    refine (rn_sL d_M_partOf_12 nb_4_253 (zinv_s l_4_253 (by decide) (Nat.le_of_ble_eq_true rfl) rfl rfl (Nat.le_of_ble_eq_true rfl)) (Nat.le_of_ble_eq_true rfl) rfl).trans (zbL_congr fun v2 h1 => ?_)
    refine (rn_st2 d_M_partOf_15 rfl rfl rfl (Nat.le_of_ble_eq_true rfl) (ls' := [some (.long x0), none, some (.long x2), none, some (.int x4), some (.long v2), none]) rfl).trans ?_
    refine (rn_ld d_M_partOf_17 rfl rfl rfl rfl).trans ?_
    refine (rn_if_ne d_M_partOf_19 (t := 29) (by decide)).trans (zif ?_ ?_)
    · refine (rn_ld d_M_partOf_22 rfl rfl rfl rfl).trans ?_
      refine (rn_ld d_M_partOf_23 rfl rfl rfl rfl).trans ?_
      refine (rn_gldiv d_M_partOf_25).trans (zif rfl ?_)
      refine (rn_goto d_M_partOf_26 (t := 33) (by decide)).trans ?_
      exact rn_rl d_M_partOf_33 rfl
    · refine (rn_ld d_M_partOf_29 rfl rfl rfl rfl).trans ?_
      refine (rn_ld d_M_partOf_30 rfl rfl rfl rfl).trans ?_
      refine (rn_gldiv d_M_partOf_32).trans (zif rfl ?_)
      exact rn_rl d_M_partOf_33 rfl
theorem b_M_divisor_6 {X : zX} {x0 : Int64} {x2 : Int64} {x4 : Int64} {x6 : Int64} {g8 : Option Value} {h : zH} : zrn X 0 m_M_divisor 6 [some (.long x0), none, some (.long x2), none, some (.long x4), none, some (.long x6), none, g8, none] [] h = (if (lg_cmp x6 0) = 0 then (some (some (.long x4), h)) else (if x6 = 0 then none else zrn X 0 m_M_divisor 6 [some (.long x0), none, some (.long x2), none, some (.long x6), none, some (.long (zrmL x4 x6)), none, some (.long (zrmL x4 x6)), none] [] h)) := by
  refine (rn_ld d_M_divisor_6 rfl rfl rfl rfl).trans ?_
  refine (rn_push d_M_divisor_8 zcs_lconst_0).trans ?_
  refine (rn_lcmp d_M_divisor_9).trans ?_
  refine (rn_if_eq d_M_divisor_10 (t := 31) (by decide)).trans (zif ?_ ?_)
  · refine (rn_ld d_M_divisor_31 rfl rfl rfl rfl).trans ?_
    exact rn_rl d_M_divisor_33 rfl
  · refine (rn_ld d_M_divisor_13 rfl rfl rfl rfl).trans ?_
    refine (rn_ld d_M_divisor_15 rfl rfl rfl rfl).trans ?_
    refine (rn_glrem d_M_divisor_17).trans (zif rfl ?_)
    refine (rn_st2 d_M_divisor_18 rfl rfl rfl (Nat.le_of_ble_eq_true rfl) (ls' := [some (.long x0), none, some (.long x2), none, some (.long x4), none, some (.long x6), none, some (.long (zrmL x4 x6)), none]) rfl).trans ?_
    refine (rn_ld d_M_divisor_20 rfl rfl rfl rfl).trans ?_
    refine (rn_st2 d_M_divisor_22 rfl rfl rfl (Nat.le_of_ble_eq_true rfl) (ls' := [some (.long x0), none, some (.long x2), none, some (.long x6), none, some (.long x6), none, some (.long (zrmL x4 x6)), none]) rfl).trans ?_
    refine (rn_ld d_M_divisor_24 rfl rfl rfl rfl).trans ?_
    refine (rn_st2 d_M_divisor_26 rfl rfl rfl (Nat.le_of_ble_eq_true rfl) (ls' := [some (.long x0), none, some (.long x2), none, some (.long x6), none, some (.long (zrmL x4 x6)), none, some (.long (zrmL x4 x6)), none]) rfl).trans ?_
    refine (rn_goto d_M_divisor_28 (t := 6) (by decide)).trans ?_
    rfl
theorem e_M_divisor {X : zX} {x0 : Int64} {x2 : Int64} {h : zH} : zcf X m_M_divisor [.long x0, .long x2] h = zrn X 0 m_M_divisor 6 [some (.long x0), none, some (.long x2), none, some (.long x0), none, some (.long x2), none, none, none] [] h := by
  refine (zcf_run (Nat.le_of_ble_eq_true rfl)).trans ?_
  show zrn X 0 m_M_divisor 0 [some (.long x0), none, some (.long x2), none, none, none, none, none, none, none] [] h = _
  refine (rn_ld d_M_divisor_0 rfl rfl rfl rfl).trans ?_
  refine (rn_st2 d_M_divisor_1 rfl rfl rfl (Nat.le_of_ble_eq_true rfl) (ls' := [some (.long x0), none, some (.long x2), none, some (.long x0), none, none, none, none, none]) rfl).trans ?_
  refine (rn_ld d_M_divisor_3 rfl rfl rfl rfl).trans ?_
  refine (rn_st2 d_M_divisor_4 rfl rfl rfl (Nat.le_of_ble_eq_true rfl) (ls' := [some (.long x0), none, some (.long x2), none, some (.long x0), none, some (.long x2), none, none, none]) rfl).trans ?_
  rfl
theorem b_M_busiest_31 {X : zX} {x1 : Int32} {x2 : Int32} {x3 : Int32} {x4 : Int32} {g5 : Option Value} {h : zH} : zrn X 5 m_M_busiest 31 [some (.ref 123), some (.int x1), some (.int x2), some (.int x3), some (.int x4), g5] [] h = (if (h.1 123 0) ≤ x4 then (if x1 = 0 then (some (some (.int x2), h)) else (some (some (.int x3), h))) else (zbI (zcf X m_M_watchersOf [.ref 123, .int x4] h) fun v2 h1 => (zbI (zcf X m_M_onesOf [.int v2] h1) fun v4 h3 => zrn X 5 m_M_busiest 31 [some (.ref 123), some (.int x1), some (.int (if v4 ≤ x3 then x2 else x4)), some (.int (if v4 ≤ x3 then x3 else v4)), some (.int (x4 + 1)), some (.int v4)] [] h3))) := by
  refine (rn_ld d_M_busiest_31 rfl rfl rfl rfl).trans ?_
  refine (rn_ld d_M_busiest_33 rfl rfl rfl rfl).trans ?_
  refine (rn_gi d_M_busiest_34 f_4_65 zc_123).trans ?_
  refine (rn_ic_ge d_M_busiest_37 (t := 83) (by decide)).trans (zif ?_ ?_)
  · refine (rn_ld d_M_busiest_83 rfl rfl rfl rfl).trans ?_
    refine (rn_if_ne d_M_busiest_84 (t := 91) (by decide)).trans (zif ?_ ?_)
    · refine (rn_ld d_M_busiest_87 rfl rfl rfl rfl).trans ?_
      refine (rn_goto d_M_busiest_88 (t := 92) (by decide)).trans ?_
      exact rn_ri d_M_busiest_92 rfl
    · refine (rn_ld d_M_busiest_91 rfl rfl rfl rfl).trans ?_
      exact rn_ri d_M_busiest_92 rfl
  · refine (rn_ld d_M_busiest_40 rfl rfl rfl rfl).trans ?_
    refine (rn_ld d_M_busiest_41 rfl rfl rfl rfl).trans ?_
    refine (rn_vI d_M_busiest_43 (zinv_v l_4_218 (by decide) (Nat.le_of_ble_eq_true rfl) rfl rfl zc_123 (Nat.le_of_ble_eq_true rfl)) (Nat.le_of_ble_eq_true rfl) (Or.inl rfl)).trans (zbI_congr fun v2 h1 => ?_)
    refine (rn_sI d_M_busiest_46 nb_4_231 (zinv_s l_4_231 (by decide) (Nat.le_of_ble_eq_true rfl) rfl rfl (Nat.le_of_ble_eq_true rfl)) (Nat.le_of_ble_eq_true rfl) (Or.inl rfl)).trans (zbI_congr fun v4 h3 => ?_)
    refine (rn_st d_M_busiest_49 rfl rfl rfl (by decide) rfl (Nat.le_of_ble_eq_true rfl) (ls' := [some (.ref 123), some (.int x1), some (.int x2), some (.int x3), some (.int x4), some (.int v4)]) rfl).trans ?_
    refine (rn_ld d_M_busiest_51 rfl rfl rfl rfl).trans ?_
    refine (rn_ld d_M_busiest_53 rfl rfl rfl rfl).trans ?_
    refine Eq.trans (b := zrn X 5 m_M_busiest 63 [some (.ref 123), some (.int x1), some (.int x2), some (.int x3), some (.int x4), some (.int v4)] [.int (if v4 ≤ x3 then x2 else x4)] h3) ?_ ?_
    · refine (rn_ic_le d_M_busiest_54 (t := 62) (by decide)).trans ?_
      by_cases q5 : v4 ≤ x3
      · simp only [if_pos q5]
        refine (rn_ld d_M_busiest_62 rfl rfl rfl rfl).trans ?_
        all_goals rfl
      · simp only [if_neg q5]
        refine (rn_ld d_M_busiest_57 rfl rfl rfl rfl).trans ?_
        refine (rn_goto d_M_busiest_59 (t := 63) (by decide)).trans ?_
        all_goals rfl
    refine (rn_st d_M_busiest_63 rfl rfl rfl (by decide) rfl (Nat.le_of_ble_eq_true rfl) (ls' := [some (.ref 123), some (.int x1), some (.int (if v4 ≤ x3 then x2 else x4)), some (.int x3), some (.int x4), some (.int v4)]) rfl).trans ?_
    refine (rn_ld d_M_busiest_64 rfl rfl rfl rfl).trans ?_
    refine (rn_ld d_M_busiest_66 rfl rfl rfl rfl).trans ?_
    refine Eq.trans (b := zrn X 5 m_M_busiest 76 [some (.ref 123), some (.int x1), some (.int (if v4 ≤ x3 then x2 else x4)), some (.int x3), some (.int x4), some (.int v4)] [.int (if v4 ≤ x3 then x3 else v4)] h3) ?_ ?_
    · refine (rn_ic_le d_M_busiest_67 (t := 75) (by decide)).trans ?_
      by_cases q6 : v4 ≤ x3
      · simp only [if_pos q6]
        refine (rn_ld d_M_busiest_75 rfl rfl rfl rfl).trans ?_
        all_goals rfl
      · simp only [if_neg q6]
        refine (rn_ld d_M_busiest_70 rfl rfl rfl rfl).trans ?_
        refine (rn_goto d_M_busiest_72 (t := 76) (by decide)).trans ?_
        all_goals rfl
    refine (rn_st d_M_busiest_76 rfl rfl rfl (by decide) rfl (Nat.le_of_ble_eq_true rfl) (ls' := [some (.ref 123), some (.int x1), some (.int (if v4 ≤ x3 then x2 else x4)), some (.int (if v4 ≤ x3 then x3 else v4)), some (.int x4), some (.int v4)]) rfl).trans ?_
    refine (rn_inc d_M_busiest_77 rfl (c := 1) (by decide) (ls' := [some (.ref 123), some (.int x1), some (.int (if v4 ≤ x3 then x2 else x4)), some (.int (if v4 ≤ x3 then x3 else v4)), some (.int (x4 + 1)), some (.int v4)]) rfl).trans ?_
    refine (rn_goto d_M_busiest_80 (t := 31) (by decide)).trans ?_
    rfl
theorem e_M_busiest {X : zX} {x1 : Int32} {h : zH} : zcf X m_M_busiest [.ref 123, .int x1] h = (zbI (zcf X m_M_in [.long (Int32.toInt64 x1), .long 0, .long 1] ((zup h.1 123 7 0), h.2)) fun v2 h1 => (if v2 = 0 then (zbI (zcf X m_M_refuse [.ref 123, .int (-2)] h1) fun v4 h3 => (some (some (.int v4), h3))) else zrn X 5 m_M_busiest 31 [some (.ref 123), some (.int x1), some (.int (-9)), some (.int (-9)), some (.int 0), none] [] h1)) := by
  refine (zcf_run (Nat.le_of_ble_eq_true rfl)).trans ?_
  show zrn X 5 m_M_busiest 0 [some (.ref 123), some (.int x1), none, none, none, none] [] h = _
  refine (rn_ld d_M_busiest_0 rfl rfl rfl rfl).trans ?_
  refine (rn_push d_M_busiest_1 zcs_iconst_0).trans ?_
  refine (rn_pi d_M_busiest_2 f_4_61 zc_123).trans ?_
  refine (rn_ld d_M_busiest_5 rfl rfl rfl rfl).trans ?_
  refine (rn_i2l d_M_busiest_6).trans ?_
  refine (rn_push d_M_busiest_7 zcs_lconst_0).trans ?_
  refine (rn_push d_M_busiest_8 zcs_lconst_1).trans ?_
  refine (rn_sI d_M_busiest_9 nb_4_68 (zinv_s l_4_68 (by decide) (Nat.le_of_ble_eq_true rfl) rfl rfl (Nat.le_of_ble_eq_true rfl)) (Nat.le_of_ble_eq_true rfl) (Or.inr rfl)).trans (zbI_congr fun v2 h1 => ?_)
  refine (rn_if_ne d_M_busiest_12 (t := 22) (by decide)).trans (zif ?_ ?_)
  · refine (rn_ld d_M_busiest_15 rfl rfl rfl rfl).trans ?_
    refine (rn_push d_M_busiest_16 zcs_bipush_m2).trans ?_
    refine (rn_vI d_M_busiest_18 (zinv_v l_4_123 (by decide) (Nat.le_of_ble_eq_true rfl) rfl rfl zc_123 (Nat.le_of_ble_eq_true rfl)) (Nat.le_of_ble_eq_true rfl) (Or.inl rfl)).trans (zbI_congr fun v4 h3 => ?_)
    exact rn_ri d_M_busiest_21 rfl
  · refine (rn_push d_M_busiest_22 zcs_bipush_m9).trans ?_
    refine (rn_st d_M_busiest_24 rfl rfl rfl (by decide) rfl (Nat.le_of_ble_eq_true rfl) (ls' := [some (.ref 123), some (.int x1), some (.int (-9)), none, none, none]) rfl).trans ?_
    refine (rn_push d_M_busiest_25 zcs_bipush_m9).trans ?_
    refine (rn_st d_M_busiest_27 rfl rfl rfl (by decide) rfl (Nat.le_of_ble_eq_true rfl) (ls' := [some (.ref 123), some (.int x1), some (.int (-9)), some (.int (-9)), none, none]) rfl).trans ?_
    refine (rn_push d_M_busiest_28 zcs_iconst_0).trans ?_
    refine (rn_st d_M_busiest_29 rfl rfl rfl (by decide) rfl (Nat.le_of_ble_eq_true rfl) (ls' := [some (.ref 123), some (.int x1), some (.int (-9)), some (.int (-9)), some (.int 0), none]) rfl).trans ?_
    rfl
theorem b_M_twos_26 {X : zX} {x1 : Int32} {x2 : Int32} {x3 : Int32} {g4 : Option Value} {g5 : Option Value} {g6 : Option Value} {h : zH} : zrn X 4 m_M_twos 26 [some (.ref 123), some (.int x1), some (.int x2), some (.int x3), g4, g5, g6] [] h = (if (h.1 123 0) ≤ x3 then (some (some (.int x2), h)) else zrn X 4 m_M_twos 39 [some (.ref 123), some (.int x1), some (.int x2), some (.int x3), some (.int (x3 + 1)), g5, g6] [] h) := by
  refine (rn_ld d_M_twos_26 rfl rfl rfl rfl).trans ?_
  refine (rn_ld d_M_twos_27 rfl rfl rfl rfl).trans ?_
  refine (rn_gi d_M_twos_28 f_4_65 zc_123).trans ?_
  refine (rn_ic_ge d_M_twos_31 (t := 141) (by decide)).trans (zif ?_ ?_)
  · refine (rn_ld d_M_twos_141 rfl rfl rfl rfl).trans ?_
    exact rn_ri d_M_twos_142 rfl
  · refine (rn_ld d_M_twos_34 rfl rfl rfl rfl).trans ?_
    refine (rn_push d_M_twos_35 zcs_iconst_1).trans ?_
    refine (rn_a2 d_M_twos_36 rfl).trans ?_
    refine (rn_st d_M_twos_37 rfl rfl rfl (by decide) rfl (Nat.le_of_ble_eq_true rfl) (ls' := [some (.ref 123), some (.int x1), some (.int x2), some (.int x3), some (.int (x3 + 1)), g5, g6]) rfl).trans ?_
    rfl
theorem b_M_twos_39 {X : zX} {x1 : Int32} {x2 : Int32} {x3 : Int32} {x4 : Int32} {g5 : Option Value} {g6 : Option Value} {h : zH} : zrn X 4 m_M_twos 39 [some (.ref 123), some (.int x1), some (.int x2), some (.int x3), some (.int x4), g5, g6] [] h = (if (h.1 123 0) ≤ x4 then zrn X 4 m_M_twos 26 [some (.ref 123), some (.int x1), some (.int x2), some (.int (x3 + 1)), some (.int x4), g5, g6] [] h else (zbI (zcf X m_M_aheadOf [.ref 123, .int x3] h) fun v2 h1 => (if v2 = x4 then (zbI (zcf X m_M_aheadOf [.ref 123, .int x4] h1) fun v4 h3 => (zbI (zcf X m_M_lensOf [.ref 123, .int x3] h3) fun v7 h6 => (if v7 = x4 then (zbI (zcf X m_M_lensOf [.ref 123, .int x4] h6) fun v9 h8 => zrn X 4 m_M_twos 39 [some (.ref 123), some (.int x1), some (.int (x2 + (if x1 = 0 then (if (if v4 = x3 then (1 : Int32) else 0) = 0 then (if x1 = 1 then (if (if v9 = x3 then (1 : Int32) else 0) = 0 then (0 : Int32) else 1) else 0) else 1) else (if x1 = 1 then (if (if v9 = x3 then (1 : Int32) else 0) = 0 then (0 : Int32) else 1) else 0)))), some (.int x3), some (.int (x4 + 1)), some (.int (if v4 = x3 then (1 : Int32) else 0)), some (.int (if v9 = x3 then (1 : Int32) else 0))] [] h8) else zrn X 4 m_M_twos 39 [some (.ref 123), some (.int x1), some (.int (x2 + (if x1 = 0 then (if (if v4 = x3 then (1 : Int32) else 0) = 0 then (0 : Int32) else 1) else 0))), some (.int x3), some (.int (x4 + 1)), some (.int (if v4 = x3 then (1 : Int32) else 0)), some (.int 0)] [] h6))) else (zbI (zcf X m_M_lensOf [.ref 123, .int x3] h1) fun v22 h21 => (if v22 = x4 then (zbI (zcf X m_M_lensOf [.ref 123, .int x4] h21) fun v24 h23 => zrn X 4 m_M_twos 39 [some (.ref 123), some (.int x1), some (.int (x2 + (if x1 = 1 then (if (if v24 = x3 then (1 : Int32) else 0) = 0 then (0 : Int32) else 1) else 0))), some (.int x3), some (.int (x4 + 1)), some (.int 0), some (.int (if v24 = x3 then (1 : Int32) else 0))] [] h23) else zrn X 4 m_M_twos 39 [some (.ref 123), some (.int x1), some (.int (x2 + 0)), some (.int x3), some (.int (x4 + 1)), some (.int 0), some (.int 0)] [] h21))))) := by
  refine (rn_ld d_M_twos_39 rfl rfl rfl rfl).trans ?_
  refine (rn_ld d_M_twos_41 rfl rfl rfl rfl).trans ?_
  refine (rn_gi d_M_twos_42 f_4_65 zc_123).trans ?_
  refine (rn_ic_ge d_M_twos_45 (t := 135) (by decide)).trans (zif ?_ ?_)
  · refine (rn_inc d_M_twos_135 rfl (c := 1) (by decide) (ls' := [some (.ref 123), some (.int x1), some (.int x2), some (.int (x3 + 1)), some (.int x4), g5, g6]) rfl).trans ?_
    refine (rn_goto d_M_twos_138 (t := 26) (by decide)).trans ?_
    rfl
  · refine (rn_ld d_M_twos_48 rfl rfl rfl rfl).trans ?_
    refine (rn_ld d_M_twos_49 rfl rfl rfl rfl).trans ?_
    refine (rn_vI d_M_twos_50 (zinv_v l_4_97 (by decide) (Nat.le_of_ble_eq_true rfl) rfl rfl zc_123 (Nat.le_of_ble_eq_true rfl)) (Nat.le_of_ble_eq_true rfl) (Or.inl rfl)).trans (zbI_congr fun v2 h1 => ?_)
    refine (rn_ld d_M_twos_53 rfl rfl rfl rfl).trans ?_
    refine (rn_ic_ne d_M_twos_55 (t := 72) (by decide)).trans (zif ?_ ?_)
    · refine (rn_ld d_M_twos_58 rfl rfl rfl rfl).trans ?_
      refine (rn_ld d_M_twos_59 rfl rfl rfl rfl).trans ?_
      refine (rn_vI d_M_twos_61 (zinv_v l_4_97 (by decide) (Nat.le_of_ble_eq_true rfl) rfl rfl zc_123 (Nat.le_of_ble_eq_true rfl)) (Nat.le_of_ble_eq_true rfl) (Or.inl rfl)).trans (zbI_congr fun v4 h3 => ?_)
      refine (rn_ld d_M_twos_64 rfl rfl rfl rfl).trans ?_
      refine Eq.trans (b := zrn X 4 m_M_twos 73 [some (.ref 123), some (.int x1), some (.int x2), some (.int x3), some (.int x4), g5, g6] [.int (if v4 = x3 then (1 : Int32) else 0)] h3) ?_ ?_
      · refine (rn_ic_ne d_M_twos_65 (t := 72) (by decide)).trans ?_
        by_cases q5 : v4 = x3
        · simp only [if_pos q5]
          refine (rn_push d_M_twos_68 zcs_iconst_1).trans ?_
          refine (rn_goto d_M_twos_69 (t := 73) (by decide)).trans ?_
          all_goals rfl
        · simp only [if_neg q5]
          refine (rn_push d_M_twos_72 zcs_iconst_0).trans ?_
          all_goals rfl
      refine (rn_st d_M_twos_73 rfl rfl rfl (by decide) rfl (Nat.le_of_ble_eq_true rfl) (ls' := [some (.ref 123), some (.int x1), some (.int x2), some (.int x3), some (.int x4), some (.int (if v4 = x3 then (1 : Int32) else 0)), g6]) rfl).trans ?_
      refine (rn_ld d_M_twos_75 rfl rfl rfl rfl).trans ?_
      refine (rn_ld d_M_twos_76 rfl rfl rfl rfl).trans ?_
      refine (rn_vI d_M_twos_77 (zinv_v l_4_113 (by decide) (Nat.le_of_ble_eq_true rfl) rfl rfl zc_123 (Nat.le_of_ble_eq_true rfl)) (Nat.le_of_ble_eq_true rfl) (Or.inl rfl)).trans (zbI_congr fun v7 h6 => ?_)
      refine (rn_ld d_M_twos_80 rfl rfl rfl rfl).trans ?_
      refine (rn_ic_ne d_M_twos_82 (t := 99) (by decide)).trans (zif ?_ ?_)
      · refine (rn_ld d_M_twos_85 rfl rfl rfl rfl).trans ?_
        refine (rn_ld d_M_twos_86 rfl rfl rfl rfl).trans ?_
        refine (rn_vI d_M_twos_88 (zinv_v l_4_113 (by decide) (Nat.le_of_ble_eq_true rfl) rfl rfl zc_123 (Nat.le_of_ble_eq_true rfl)) (Nat.le_of_ble_eq_true rfl) (Or.inl rfl)).trans (zbI_congr fun v9 h8 => ?_)
        refine (rn_ld d_M_twos_91 rfl rfl rfl rfl).trans ?_
        refine Eq.trans (b := zrn X 4 m_M_twos 100 [some (.ref 123), some (.int x1), some (.int x2), some (.int x3), some (.int x4), some (.int (if v4 = x3 then (1 : Int32) else 0)), g6] [.int (if v9 = x3 then (1 : Int32) else 0)] h8) ?_ ?_
        · refine (rn_ic_ne d_M_twos_92 (t := 99) (by decide)).trans ?_
          by_cases q10 : v9 = x3
          · simp only [if_pos q10]
            refine (rn_push d_M_twos_95 zcs_iconst_1).trans ?_
            refine (rn_goto d_M_twos_96 (t := 100) (by decide)).trans ?_
            all_goals rfl
          · simp only [if_neg q10]
            refine (rn_push d_M_twos_99 zcs_iconst_0).trans ?_
            all_goals rfl
        refine (rn_st d_M_twos_100 rfl rfl rfl (by decide) rfl (Nat.le_of_ble_eq_true rfl) (ls' := [some (.ref 123), some (.int x1), some (.int x2), some (.int x3), some (.int x4), some (.int (if v4 = x3 then (1 : Int32) else 0)), some (.int (if v9 = x3 then (1 : Int32) else 0))]) rfl).trans ?_
        refine (rn_ld d_M_twos_102 rfl rfl rfl rfl).trans ?_
        refine (rn_ld d_M_twos_103 rfl rfl rfl rfl).trans ?_
        refine Eq.trans (b := zrn X 4 m_M_twos 127 [some (.ref 123), some (.int x1), some (.int x2), some (.int x3), some (.int x4), some (.int (if v4 = x3 then (1 : Int32) else 0)), some (.int (if v9 = x3 then (1 : Int32) else 0))] [.int (if x1 = 0 then (if (if v4 = x3 then (1 : Int32) else 0) = 0 then (if x1 = 1 then (if (if v9 = x3 then (1 : Int32) else 0) = 0 then (0 : Int32) else 1) else 0) else 1) else (if x1 = 1 then (if (if v9 = x3 then (1 : Int32) else 0) = 0 then (0 : Int32) else 1) else 0)), .int x2] h8) ?_ ?_
        · refine (rn_if_ne d_M_twos_104 (t := 112) (by decide)).trans ?_
          by_cases q11 : x1 = 0
          · simp only [if_pos q11]
            refine (rn_ld d_M_twos_107 rfl rfl rfl rfl).trans ?_
            refine (rn_if_ne d_M_twos_109 (t := 122) (by decide)).trans ?_
            by_cases q12 : (if v4 = x3 then (1 : Int32) else 0) = 0
            · simp only [if_pos q12]
              refine (rn_ld d_M_twos_112 rfl rfl rfl rfl).trans ?_
              refine (rn_push d_M_twos_113 zcs_iconst_1).trans ?_
              refine (rn_ic_ne d_M_twos_114 (t := 126) (by decide)).trans ?_
              by_cases q13 : x1 = 1
              · simp only [if_pos q13]
                refine (rn_ld d_M_twos_117 rfl rfl rfl rfl).trans ?_
                refine (rn_if_eq d_M_twos_119 (t := 126) (by decide)).trans ?_
                by_cases q14 : (if v9 = x3 then (1 : Int32) else 0) = 0
                · simp only [if_pos q14]
                  refine (rn_push d_M_twos_126 zcs_iconst_0).trans ?_
                  all_goals rfl
                · simp only [if_neg q14]
                  refine (rn_push d_M_twos_122 zcs_iconst_1).trans ?_
                  refine (rn_goto d_M_twos_123 (t := 127) (by decide)).trans ?_
                  all_goals rfl
              · simp only [if_neg q13]
                refine (rn_push d_M_twos_126 zcs_iconst_0).trans ?_
                all_goals rfl
            · simp only [if_neg q12]
              refine (rn_push d_M_twos_122 zcs_iconst_1).trans ?_
              refine (rn_goto d_M_twos_123 (t := 127) (by decide)).trans ?_
              all_goals rfl
          · simp only [if_neg q11]
            refine (rn_ld d_M_twos_112 rfl rfl rfl rfl).trans ?_
            refine (rn_push d_M_twos_113 zcs_iconst_1).trans ?_
            refine (rn_ic_ne d_M_twos_114 (t := 126) (by decide)).trans ?_
            by_cases q15 : x1 = 1
            · simp only [if_pos q15]
              refine (rn_ld d_M_twos_117 rfl rfl rfl rfl).trans ?_
              refine (rn_if_eq d_M_twos_119 (t := 126) (by decide)).trans ?_
              by_cases q16 : (if v9 = x3 then (1 : Int32) else 0) = 0
              · simp only [if_pos q16]
                refine (rn_push d_M_twos_126 zcs_iconst_0).trans ?_
                all_goals rfl
              · simp only [if_neg q16]
                refine (rn_push d_M_twos_122 zcs_iconst_1).trans ?_
                refine (rn_goto d_M_twos_123 (t := 127) (by decide)).trans ?_
                all_goals rfl
            · simp only [if_neg q15]
              refine (rn_push d_M_twos_126 zcs_iconst_0).trans ?_
              all_goals rfl
        refine (rn_a2 d_M_twos_127 rfl).trans ?_
        refine (rn_st d_M_twos_128 rfl rfl rfl (by decide) rfl (Nat.le_of_ble_eq_true rfl) (ls' := [some (.ref 123), some (.int x1), some (.int (x2 + (if x1 = 0 then (if (if v4 = x3 then (1 : Int32) else 0) = 0 then (if x1 = 1 then (if (if v9 = x3 then (1 : Int32) else 0) = 0 then (0 : Int32) else 1) else 0) else 1) else (if x1 = 1 then (if (if v9 = x3 then (1 : Int32) else 0) = 0 then (0 : Int32) else 1) else 0)))), some (.int x3), some (.int x4), some (.int (if v4 = x3 then (1 : Int32) else 0)), some (.int (if v9 = x3 then (1 : Int32) else 0))]) rfl).trans ?_
        refine (rn_inc d_M_twos_129 rfl (c := 1) (by decide) (ls' := [some (.ref 123), some (.int x1), some (.int (x2 + (if x1 = 0 then (if (if v4 = x3 then (1 : Int32) else 0) = 0 then (if x1 = 1 then (if (if v9 = x3 then (1 : Int32) else 0) = 0 then (0 : Int32) else 1) else 0) else 1) else (if x1 = 1 then (if (if v9 = x3 then (1 : Int32) else 0) = 0 then (0 : Int32) else 1) else 0)))), some (.int x3), some (.int (x4 + 1)), some (.int (if v4 = x3 then (1 : Int32) else 0)), some (.int (if v9 = x3 then (1 : Int32) else 0))]) rfl).trans ?_
        refine (rn_goto d_M_twos_132 (t := 39) (by decide)).trans ?_
        rfl
      · refine (rn_push d_M_twos_99 zcs_iconst_0).trans ?_
        refine (rn_st d_M_twos_100 rfl rfl rfl (by decide) rfl (Nat.le_of_ble_eq_true rfl) (ls' := [some (.ref 123), some (.int x1), some (.int x2), some (.int x3), some (.int x4), some (.int (if v4 = x3 then (1 : Int32) else 0)), some (.int 0)]) rfl).trans ?_
        refine (rn_ld d_M_twos_102 rfl rfl rfl rfl).trans ?_
        refine (rn_ld d_M_twos_103 rfl rfl rfl rfl).trans ?_
        refine Eq.trans (b := zrn X 4 m_M_twos 127 [some (.ref 123), some (.int x1), some (.int x2), some (.int x3), some (.int x4), some (.int (if v4 = x3 then (1 : Int32) else 0)), some (.int 0)] [.int (if x1 = 0 then (if (if v4 = x3 then (1 : Int32) else 0) = 0 then (0 : Int32) else 1) else 0), .int x2] h6) ?_ ?_
        · refine (rn_if_ne d_M_twos_104 (t := 112) (by decide)).trans ?_
          by_cases q17 : x1 = 0
          · simp only [if_pos q17]
            refine (rn_ld d_M_twos_107 rfl rfl rfl rfl).trans ?_
            refine (rn_if_ne d_M_twos_109 (t := 122) (by decide)).trans ?_
            by_cases q18 : (if v4 = x3 then (1 : Int32) else 0) = 0
            · simp only [if_pos q18]
              refine (rn_ld d_M_twos_112 rfl rfl rfl rfl).trans ?_
              refine (rn_push d_M_twos_113 zcs_iconst_1).trans ?_
              refine (rn_ic_ne d_M_twos_114 (t := 126) (by decide)).trans ?_
              by_cases q19 : x1 = 1
              · simp only [if_pos q19]
                refine (rn_ld d_M_twos_117 rfl rfl rfl rfl).trans ?_
                refine ((rn_if_eq d_M_twos_119 (t := 126) (by decide)).trans (if_pos (by decide))).trans ?_
                refine (rn_push d_M_twos_126 zcs_iconst_0).trans ?_
                all_goals rfl
              · simp only [if_neg q19]
                refine (rn_push d_M_twos_126 zcs_iconst_0).trans ?_
                all_goals rfl
            · simp only [if_neg q18]
              refine (rn_push d_M_twos_122 zcs_iconst_1).trans ?_
              refine (rn_goto d_M_twos_123 (t := 127) (by decide)).trans ?_
              all_goals rfl
          · simp only [if_neg q17]
            refine (rn_ld d_M_twos_112 rfl rfl rfl rfl).trans ?_
            refine (rn_push d_M_twos_113 zcs_iconst_1).trans ?_
            refine (rn_ic_ne d_M_twos_114 (t := 126) (by decide)).trans ?_
            by_cases q20 : x1 = 1
            · simp only [if_pos q20]
              refine (rn_ld d_M_twos_117 rfl rfl rfl rfl).trans ?_
              refine ((rn_if_eq d_M_twos_119 (t := 126) (by decide)).trans (if_pos (by decide))).trans ?_
              refine (rn_push d_M_twos_126 zcs_iconst_0).trans ?_
              all_goals rfl
            · simp only [if_neg q20]
              refine (rn_push d_M_twos_126 zcs_iconst_0).trans ?_
              all_goals rfl
        refine (rn_a2 d_M_twos_127 rfl).trans ?_
        refine (rn_st d_M_twos_128 rfl rfl rfl (by decide) rfl (Nat.le_of_ble_eq_true rfl) (ls' := [some (.ref 123), some (.int x1), some (.int (x2 + (if x1 = 0 then (if (if v4 = x3 then (1 : Int32) else 0) = 0 then (0 : Int32) else 1) else 0))), some (.int x3), some (.int x4), some (.int (if v4 = x3 then (1 : Int32) else 0)), some (.int 0)]) rfl).trans ?_
        refine (rn_inc d_M_twos_129 rfl (c := 1) (by decide) (ls' := [some (.ref 123), some (.int x1), some (.int (x2 + (if x1 = 0 then (if (if v4 = x3 then (1 : Int32) else 0) = 0 then (0 : Int32) else 1) else 0))), some (.int x3), some (.int (x4 + 1)), some (.int (if v4 = x3 then (1 : Int32) else 0)), some (.int 0)]) rfl).trans ?_
        refine (rn_goto d_M_twos_132 (t := 39) (by decide)).trans ?_
        rfl
    · refine (rn_push d_M_twos_72 zcs_iconst_0).trans ?_
      refine (rn_st d_M_twos_73 rfl rfl rfl (by decide) rfl (Nat.le_of_ble_eq_true rfl) (ls' := [some (.ref 123), some (.int x1), some (.int x2), some (.int x3), some (.int x4), some (.int 0), g6]) rfl).trans ?_
      refine (rn_ld d_M_twos_75 rfl rfl rfl rfl).trans ?_
      refine (rn_ld d_M_twos_76 rfl rfl rfl rfl).trans ?_
      refine (rn_vI d_M_twos_77 (zinv_v l_4_113 (by decide) (Nat.le_of_ble_eq_true rfl) rfl rfl zc_123 (Nat.le_of_ble_eq_true rfl)) (Nat.le_of_ble_eq_true rfl) (Or.inl rfl)).trans (zbI_congr fun v22 h21 => ?_)
      refine (rn_ld d_M_twos_80 rfl rfl rfl rfl).trans ?_
      refine (rn_ic_ne d_M_twos_82 (t := 99) (by decide)).trans (zif ?_ ?_)
      · refine (rn_ld d_M_twos_85 rfl rfl rfl rfl).trans ?_
        refine (rn_ld d_M_twos_86 rfl rfl rfl rfl).trans ?_
        refine (rn_vI d_M_twos_88 (zinv_v l_4_113 (by decide) (Nat.le_of_ble_eq_true rfl) rfl rfl zc_123 (Nat.le_of_ble_eq_true rfl)) (Nat.le_of_ble_eq_true rfl) (Or.inl rfl)).trans (zbI_congr fun v24 h23 => ?_)
        refine (rn_ld d_M_twos_91 rfl rfl rfl rfl).trans ?_
        refine Eq.trans (b := zrn X 4 m_M_twos 100 [some (.ref 123), some (.int x1), some (.int x2), some (.int x3), some (.int x4), some (.int 0), g6] [.int (if v24 = x3 then (1 : Int32) else 0)] h23) ?_ ?_
        · refine (rn_ic_ne d_M_twos_92 (t := 99) (by decide)).trans ?_
          by_cases q25 : v24 = x3
          · simp only [if_pos q25]
            refine (rn_push d_M_twos_95 zcs_iconst_1).trans ?_
            refine (rn_goto d_M_twos_96 (t := 100) (by decide)).trans ?_
            all_goals rfl
          · simp only [if_neg q25]
            refine (rn_push d_M_twos_99 zcs_iconst_0).trans ?_
            all_goals rfl
        refine (rn_st d_M_twos_100 rfl rfl rfl (by decide) rfl (Nat.le_of_ble_eq_true rfl) (ls' := [some (.ref 123), some (.int x1), some (.int x2), some (.int x3), some (.int x4), some (.int 0), some (.int (if v24 = x3 then (1 : Int32) else 0))]) rfl).trans ?_
        refine (rn_ld d_M_twos_102 rfl rfl rfl rfl).trans ?_
        refine (rn_ld d_M_twos_103 rfl rfl rfl rfl).trans ?_
        refine Eq.trans (b := zrn X 4 m_M_twos 127 [some (.ref 123), some (.int x1), some (.int x2), some (.int x3), some (.int x4), some (.int 0), some (.int (if v24 = x3 then (1 : Int32) else 0))] [.int (if x1 = 1 then (if (if v24 = x3 then (1 : Int32) else 0) = 0 then (0 : Int32) else 1) else 0), .int x2] h23) ?_ ?_
        · refine (rn_if_ne d_M_twos_104 (t := 112) (by decide)).trans ?_
          by_cases q26 : x1 = 0
          · simp only [if_pos q26]
            refine (rn_ld d_M_twos_107 rfl rfl rfl rfl).trans ?_
            refine ((rn_if_ne d_M_twos_109 (t := 122) (by decide)).trans (if_pos (by decide))).trans ?_
            refine (rn_ld d_M_twos_112 rfl rfl rfl rfl).trans ?_
            refine (rn_push d_M_twos_113 zcs_iconst_1).trans ?_
            refine (rn_ic_ne d_M_twos_114 (t := 126) (by decide)).trans ?_
            by_cases q27 : x1 = 1
            · simp only [if_pos q27]
              refine (rn_ld d_M_twos_117 rfl rfl rfl rfl).trans ?_
              refine (rn_if_eq d_M_twos_119 (t := 126) (by decide)).trans ?_
              by_cases q28 : (if v24 = x3 then (1 : Int32) else 0) = 0
              · simp only [if_pos q28]
                refine (rn_push d_M_twos_126 zcs_iconst_0).trans ?_
                all_goals rfl
              · simp only [if_neg q28]
                refine (rn_push d_M_twos_122 zcs_iconst_1).trans ?_
                refine (rn_goto d_M_twos_123 (t := 127) (by decide)).trans ?_
                all_goals rfl
            · simp only [if_neg q27]
              refine (rn_push d_M_twos_126 zcs_iconst_0).trans ?_
              all_goals rfl
          · simp only [if_neg q26]
            refine (rn_ld d_M_twos_112 rfl rfl rfl rfl).trans ?_
            refine (rn_push d_M_twos_113 zcs_iconst_1).trans ?_
            refine (rn_ic_ne d_M_twos_114 (t := 126) (by decide)).trans ?_
            by_cases q29 : x1 = 1
            · simp only [if_pos q29]
              refine (rn_ld d_M_twos_117 rfl rfl rfl rfl).trans ?_
              refine (rn_if_eq d_M_twos_119 (t := 126) (by decide)).trans ?_
              by_cases q30 : (if v24 = x3 then (1 : Int32) else 0) = 0
              · simp only [if_pos q30]
                refine (rn_push d_M_twos_126 zcs_iconst_0).trans ?_
                all_goals rfl
              · simp only [if_neg q30]
                refine (rn_push d_M_twos_122 zcs_iconst_1).trans ?_
                refine (rn_goto d_M_twos_123 (t := 127) (by decide)).trans ?_
                all_goals rfl
            · simp only [if_neg q29]
              refine (rn_push d_M_twos_126 zcs_iconst_0).trans ?_
              all_goals rfl
        refine (rn_a2 d_M_twos_127 rfl).trans ?_
        refine (rn_st d_M_twos_128 rfl rfl rfl (by decide) rfl (Nat.le_of_ble_eq_true rfl) (ls' := [some (.ref 123), some (.int x1), some (.int (x2 + (if x1 = 1 then (if (if v24 = x3 then (1 : Int32) else 0) = 0 then (0 : Int32) else 1) else 0))), some (.int x3), some (.int x4), some (.int 0), some (.int (if v24 = x3 then (1 : Int32) else 0))]) rfl).trans ?_
        refine (rn_inc d_M_twos_129 rfl (c := 1) (by decide) (ls' := [some (.ref 123), some (.int x1), some (.int (x2 + (if x1 = 1 then (if (if v24 = x3 then (1 : Int32) else 0) = 0 then (0 : Int32) else 1) else 0))), some (.int x3), some (.int (x4 + 1)), some (.int 0), some (.int (if v24 = x3 then (1 : Int32) else 0))]) rfl).trans ?_
        refine (rn_goto d_M_twos_132 (t := 39) (by decide)).trans ?_
        rfl
      · refine (rn_push d_M_twos_99 zcs_iconst_0).trans ?_
        refine (rn_st d_M_twos_100 rfl rfl rfl (by decide) rfl (Nat.le_of_ble_eq_true rfl) (ls' := [some (.ref 123), some (.int x1), some (.int x2), some (.int x3), some (.int x4), some (.int 0), some (.int 0)]) rfl).trans ?_
        refine (rn_ld d_M_twos_102 rfl rfl rfl rfl).trans ?_
        refine (rn_ld d_M_twos_103 rfl rfl rfl rfl).trans ?_
        refine Eq.trans (b := zrn X 4 m_M_twos 127 [some (.ref 123), some (.int x1), some (.int x2), some (.int x3), some (.int x4), some (.int 0), some (.int 0)] [.int 0, .int x2] h21) ?_ ?_
        · refine (rn_if_ne d_M_twos_104 (t := 112) (by decide)).trans ?_
          by_cases q31 : x1 = 0
          · simp only [if_pos q31]
            refine (rn_ld d_M_twos_107 rfl rfl rfl rfl).trans ?_
            refine ((rn_if_ne d_M_twos_109 (t := 122) (by decide)).trans (if_pos (by decide))).trans ?_
            refine (rn_ld d_M_twos_112 rfl rfl rfl rfl).trans ?_
            refine (rn_push d_M_twos_113 zcs_iconst_1).trans ?_
            refine (rn_ic_ne d_M_twos_114 (t := 126) (by decide)).trans ?_
            by_cases q32 : x1 = 1
            · simp only [if_pos q32]
              refine (rn_ld d_M_twos_117 rfl rfl rfl rfl).trans ?_
              refine ((rn_if_eq d_M_twos_119 (t := 126) (by decide)).trans (if_pos (by decide))).trans ?_
              refine (rn_push d_M_twos_126 zcs_iconst_0).trans ?_
              all_goals rfl
            · simp only [if_neg q32]
              refine (rn_push d_M_twos_126 zcs_iconst_0).trans ?_
              all_goals rfl
          · simp only [if_neg q31]
            refine (rn_ld d_M_twos_112 rfl rfl rfl rfl).trans ?_
            refine (rn_push d_M_twos_113 zcs_iconst_1).trans ?_
            refine (rn_ic_ne d_M_twos_114 (t := 126) (by decide)).trans ?_
            by_cases q33 : x1 = 1
            · simp only [if_pos q33]
              refine (rn_ld d_M_twos_117 rfl rfl rfl rfl).trans ?_
              refine ((rn_if_eq d_M_twos_119 (t := 126) (by decide)).trans (if_pos (by decide))).trans ?_
              refine (rn_push d_M_twos_126 zcs_iconst_0).trans ?_
              all_goals rfl
            · simp only [if_neg q33]
              refine (rn_push d_M_twos_126 zcs_iconst_0).trans ?_
              all_goals rfl
        refine (rn_a2 d_M_twos_127 rfl).trans ?_
        refine (rn_st d_M_twos_128 rfl rfl rfl (by decide) rfl (Nat.le_of_ble_eq_true rfl) (ls' := [some (.ref 123), some (.int x1), some (.int (x2 + 0)), some (.int x3), some (.int x4), some (.int 0), some (.int 0)]) rfl).trans ?_
        refine (rn_inc d_M_twos_129 rfl (c := 1) (by decide) (ls' := [some (.ref 123), some (.int x1), some (.int (x2 + 0)), some (.int x3), some (.int (x4 + 1)), some (.int 0), some (.int 0)]) rfl).trans ?_
        refine (rn_goto d_M_twos_132 (t := 39) (by decide)).trans ?_
        rfl
theorem e_M_twos {X : zX} {x1 : Int32} {h : zH} : zcf X m_M_twos [.ref 123, .int x1] h = (zbI (zcf X m_M_in [.long (Int32.toInt64 x1), .long 0, .long 1] ((zup h.1 123 7 0), h.2)) fun v2 h1 => (if v2 = 0 then (zbI (zcf X m_M_refuse [.ref 123, .int (-2)] h1) fun v4 h3 => (some (some (.int v4), h3))) else zrn X 4 m_M_twos 26 [some (.ref 123), some (.int x1), some (.int 0), some (.int 0), none, none, none] [] h1)) := by
  refine (zcf_run (Nat.le_of_ble_eq_true rfl)).trans ?_
  show zrn X 4 m_M_twos 0 [some (.ref 123), some (.int x1), none, none, none, none, none] [] h = _
  refine (rn_ld d_M_twos_0 rfl rfl rfl rfl).trans ?_
  refine (rn_push d_M_twos_1 zcs_iconst_0).trans ?_
  refine (rn_pi d_M_twos_2 f_4_61 zc_123).trans ?_
  refine (rn_ld d_M_twos_5 rfl rfl rfl rfl).trans ?_
  refine (rn_i2l d_M_twos_6).trans ?_
  refine (rn_push d_M_twos_7 zcs_lconst_0).trans ?_
  refine (rn_push d_M_twos_8 zcs_lconst_1).trans ?_
  refine (rn_sI d_M_twos_9 nb_4_68 (zinv_s l_4_68 (by decide) (Nat.le_of_ble_eq_true rfl) rfl rfl (Nat.le_of_ble_eq_true rfl)) (Nat.le_of_ble_eq_true rfl) (Or.inr rfl)).trans (zbI_congr fun v2 h1 => ?_)
  refine (rn_if_ne d_M_twos_12 (t := 22) (by decide)).trans (zif ?_ ?_)
  · refine (rn_ld d_M_twos_15 rfl rfl rfl rfl).trans ?_
    refine (rn_push d_M_twos_16 zcs_bipush_m2).trans ?_
    refine (rn_vI d_M_twos_18 (zinv_v l_4_123 (by decide) (Nat.le_of_ble_eq_true rfl) rfl rfl zc_123 (Nat.le_of_ble_eq_true rfl)) (Nat.le_of_ble_eq_true rfl) (Or.inl rfl)).trans (zbI_congr fun v4 h3 => ?_)
    exact rn_ri d_M_twos_21 rfl
  · refine (rn_push d_M_twos_22 zcs_iconst_0).trans ?_
    refine (rn_st d_M_twos_23 rfl rfl rfl (by decide) rfl (Nat.le_of_ble_eq_true rfl) (ls' := [some (.ref 123), some (.int x1), some (.int 0), none, none, none, none]) rfl).trans ?_
    refine (rn_push d_M_twos_24 zcs_iconst_0).trans ?_
    refine (rn_st d_M_twos_25 rfl rfl rfl (by decide) rfl (Nat.le_of_ble_eq_true rfl) (ls' := [some (.ref 123), some (.int x1), some (.int 0), some (.int 0), none, none, none]) rfl).trans ?_
    rfl
theorem b_M_nearest_31 {X : zX} {x1 : Int32} {x2 : Int32} {x3 : Int32} {x4 : Int32} {g5 : Option Value} {g6 : Option Value} {g7 : Option Value} {h : zH} : zrn X 1 m_M_nearest 31 [some (.ref 123), some (.int x1), some (.int x2), some (.int x3), some (.int x4), g5, g6, g7] [] h = (if (h.1 123 0) ≤ x4 then (if x1 = 0 then (some (some (.int x2), h)) else (some (some (.int x3), h))) else zrn X 1 m_M_nearest 46 [some (.ref 123), some (.int x1), some (.int x2), some (.int x3), some (.int x4), some (.int (x4 + 1)), g6, g7] [] h) := by
  refine (rn_ld d_M_nearest_31 rfl rfl rfl rfl).trans ?_
  refine (rn_ld d_M_nearest_33 rfl rfl rfl rfl).trans ?_
  refine (rn_gi d_M_nearest_34 f_4_65 zc_123).trans ?_
  refine (rn_ic_ge d_M_nearest_37 (t := 133) (by decide)).trans (zif ?_ ?_)
  · refine (rn_ld d_M_nearest_133 rfl rfl rfl rfl).trans ?_
    refine (rn_if_ne d_M_nearest_134 (t := 141) (by decide)).trans (zif ?_ ?_)
    · refine (rn_ld d_M_nearest_137 rfl rfl rfl rfl).trans ?_
      refine (rn_goto d_M_nearest_138 (t := 142) (by decide)).trans ?_
      exact rn_ri d_M_nearest_142 rfl
    · refine (rn_ld d_M_nearest_141 rfl rfl rfl rfl).trans ?_
      exact rn_ri d_M_nearest_142 rfl
  · refine (rn_ld d_M_nearest_40 rfl rfl rfl rfl).trans ?_
    refine (rn_push d_M_nearest_42 zcs_iconst_1).trans ?_
    refine (rn_a2 d_M_nearest_43 rfl).trans ?_
    refine (rn_st d_M_nearest_44 rfl rfl rfl (by decide) rfl (Nat.le_of_ble_eq_true rfl) (ls' := [some (.ref 123), some (.int x1), some (.int x2), some (.int x3), some (.int x4), some (.int (x4 + 1)), g6, g7]) rfl).trans ?_
    rfl
theorem b_M_nearest_46 {X : zX} {x1 : Int32} {x2 : Int32} {x3 : Int32} {x4 : Int32} {x5 : Int32} {g6 : Option Value} {g7 : Option Value} {h : zH} : zrn X 1 m_M_nearest 46 [some (.ref 123), some (.int x1), some (.int x2), some (.int x3), some (.int x4), some (.int x5), g6, g7] [] h = (if (h.1 123 0) ≤ x5 then zrn X 1 m_M_nearest 31 [some (.ref 123), some (.int x1), some (.int x2), some (.int x3), some (.int (x4 + 1)), some (.int x5), g6, g7] [] h else (if zin x4 7 = true then (if zin x5 7 = true then (zbI (zcf X m_M_apart [.int (h.1 126 (Int32.toNatClampNeg x4)), .int (h.1 126 (Int32.toNatClampNeg x5))] h) fun v2 h1 => zrn X 1 m_M_nearest 46 [some (.ref 123), some (.int x1), some (.int (if (if x3 < 0 then (1 : Int32) else (if x3 ≤ v2 then (0 : Int32) else 1)) = 0 then x2 else ((10 * x4) + x5))), some (.int (if (if x3 < 0 then (1 : Int32) else (if x3 ≤ v2 then (0 : Int32) else 1)) = 0 then x3 else v2)), some (.int x4), some (.int (x5 + 1)), some (.int v2), some (.int (if x3 < 0 then (1 : Int32) else (if x3 ≤ v2 then (0 : Int32) else 1)))] [] h1) else none) else none)) := by
  refine (rn_ld d_M_nearest_46 rfl rfl rfl rfl).trans ?_
  refine (rn_ld d_M_nearest_48 rfl rfl rfl rfl).trans ?_
  refine (rn_gi d_M_nearest_49 f_4_65 zc_123).trans ?_
  refine (rn_ic_ge d_M_nearest_52 (t := 127) (by decide)).trans (zif ?_ ?_)
  · refine (rn_inc d_M_nearest_127 rfl (c := 1) (by decide) (ls' := [some (.ref 123), some (.int x1), some (.int x2), some (.int x3), some (.int (x4 + 1)), some (.int x5), g6, g7]) rfl).trans ?_
    refine (rn_goto d_M_nearest_130 (t := 31) (by decide)).trans ?_
    rfl
  · refine (rn_ld d_M_nearest_55 rfl rfl rfl rfl).trans ?_
    refine (rn_gr d_M_nearest_56 f_4_16 zc_123 zr_123_3).trans ?_
    refine (rn_ld d_M_nearest_59 rfl rfl rfl rfl).trans ?_
    refine (rn_ial d_M_nearest_61 (by decide) zc_126).trans (zif ?_ rfl)
    refine (rn_ld d_M_nearest_62 rfl rfl rfl rfl).trans ?_
    refine (rn_gr d_M_nearest_63 f_4_16 zc_123 zr_123_3).trans ?_
    refine (rn_ld d_M_nearest_66 rfl rfl rfl rfl).trans ?_
    refine (rn_ial d_M_nearest_68 (by decide) zc_126).trans (zif ?_ rfl)
    refine (rn_sI d_M_nearest_69 nb_4_263 (zinv_s l_4_263 (by decide) (Nat.le_of_ble_eq_true rfl) rfl rfl (Nat.le_of_ble_eq_true rfl)) (Nat.le_of_ble_eq_true rfl) (Or.inl rfl)).trans (zbI_congr fun v2 h1 => ?_)
    refine (rn_st d_M_nearest_72 rfl rfl rfl (by decide) rfl (Nat.le_of_ble_eq_true rfl) (ls' := [some (.ref 123), some (.int x1), some (.int x2), some (.int x3), some (.int x4), some (.int x5), some (.int v2), g7]) rfl).trans ?_
    refine (rn_ld d_M_nearest_74 rfl rfl rfl rfl).trans ?_
    refine Eq.trans (b := zrn X 1 m_M_nearest 89 [some (.ref 123), some (.int x1), some (.int x2), some (.int x3), some (.int x4), some (.int x5), some (.int v2), g7] [.int (if x3 < 0 then (1 : Int32) else (if x3 ≤ v2 then (0 : Int32) else 1))] h1) ?_ ?_
    · refine (rn_if_lt d_M_nearest_75 (t := 84) (by decide)).trans ?_
      by_cases q3 : x3 < 0
      · simp only [if_pos q3]
        refine (rn_push d_M_nearest_84 zcs_iconst_1).trans ?_
        refine (rn_goto d_M_nearest_85 (t := 89) (by decide)).trans ?_
        all_goals rfl
      · simp only [if_neg q3]
        refine (rn_ld d_M_nearest_78 rfl rfl rfl rfl).trans ?_
        refine (rn_ld d_M_nearest_80 rfl rfl rfl rfl).trans ?_
        refine (rn_ic_ge d_M_nearest_81 (t := 88) (by decide)).trans ?_
        by_cases q4 : x3 ≤ v2
        · simp only [if_pos q4]
          refine (rn_push d_M_nearest_88 zcs_iconst_0).trans ?_
          all_goals rfl
        · simp only [if_neg q4]
          refine (rn_push d_M_nearest_84 zcs_iconst_1).trans ?_
          refine (rn_goto d_M_nearest_85 (t := 89) (by decide)).trans ?_
          all_goals rfl
    refine (rn_st d_M_nearest_89 rfl rfl rfl (by decide) rfl (Nat.le_of_ble_eq_true rfl) (ls' := [some (.ref 123), some (.int x1), some (.int x2), some (.int x3), some (.int x4), some (.int x5), some (.int v2), some (.int (if x3 < 0 then (1 : Int32) else (if x3 ≤ v2 then (0 : Int32) else 1)))]) rfl).trans ?_
    refine (rn_ld d_M_nearest_91 rfl rfl rfl rfl).trans ?_
    refine Eq.trans (b := zrn X 1 m_M_nearest 108 [some (.ref 123), some (.int x1), some (.int x2), some (.int x3), some (.int x4), some (.int x5), some (.int v2), some (.int (if x3 < 0 then (1 : Int32) else (if x3 ≤ v2 then (0 : Int32) else 1)))] [.int (if (if x3 < 0 then (1 : Int32) else (if x3 ≤ v2 then (0 : Int32) else 1)) = 0 then x2 else ((10 * x4) + x5))] h1) ?_ ?_
    · refine (rn_if_eq d_M_nearest_93 (t := 107) (by decide)).trans ?_
      by_cases q5 : (if x3 < 0 then (1 : Int32) else (if x3 ≤ v2 then (0 : Int32) else 1)) = 0
      · simp only [if_pos q5]
        refine (rn_ld d_M_nearest_107 rfl rfl rfl rfl).trans ?_
        all_goals rfl
      · simp only [if_neg q5]
        refine (rn_push d_M_nearest_96 zcs_bipush_10).trans ?_
        refine (rn_ld d_M_nearest_98 rfl rfl rfl rfl).trans ?_
        refine (rn_a2 d_M_nearest_100 rfl).trans ?_
        refine (rn_ld d_M_nearest_101 rfl rfl rfl rfl).trans ?_
        refine (rn_a2 d_M_nearest_103 rfl).trans ?_
        refine (rn_goto d_M_nearest_104 (t := 108) (by decide)).trans ?_
        all_goals rfl
    refine (rn_st d_M_nearest_108 rfl rfl rfl (by decide) rfl (Nat.le_of_ble_eq_true rfl) (ls' := [some (.ref 123), some (.int x1), some (.int (if (if x3 < 0 then (1 : Int32) else (if x3 ≤ v2 then (0 : Int32) else 1)) = 0 then x2 else ((10 * x4) + x5))), some (.int x3), some (.int x4), some (.int x5), some (.int v2), some (.int (if x3 < 0 then (1 : Int32) else (if x3 ≤ v2 then (0 : Int32) else 1)))]) rfl).trans ?_
    refine (rn_ld d_M_nearest_109 rfl rfl rfl rfl).trans ?_
    refine Eq.trans (b := zrn X 1 m_M_nearest 120 [some (.ref 123), some (.int x1), some (.int (if (if x3 < 0 then (1 : Int32) else (if x3 ≤ v2 then (0 : Int32) else 1)) = 0 then x2 else ((10 * x4) + x5))), some (.int x3), some (.int x4), some (.int x5), some (.int v2), some (.int (if x3 < 0 then (1 : Int32) else (if x3 ≤ v2 then (0 : Int32) else 1)))] [.int (if (if x3 < 0 then (1 : Int32) else (if x3 ≤ v2 then (0 : Int32) else 1)) = 0 then x3 else v2)] h1) ?_ ?_
    · refine (rn_if_eq d_M_nearest_111 (t := 119) (by decide)).trans ?_
      by_cases q6 : (if x3 < 0 then (1 : Int32) else (if x3 ≤ v2 then (0 : Int32) else 1)) = 0
      · simp only [if_pos q6]
        refine (rn_ld d_M_nearest_119 rfl rfl rfl rfl).trans ?_
        all_goals rfl
      · simp only [if_neg q6]
        refine (rn_ld d_M_nearest_114 rfl rfl rfl rfl).trans ?_
        refine (rn_goto d_M_nearest_116 (t := 120) (by decide)).trans ?_
        all_goals rfl
    refine (rn_st d_M_nearest_120 rfl rfl rfl (by decide) rfl (Nat.le_of_ble_eq_true rfl) (ls' := [some (.ref 123), some (.int x1), some (.int (if (if x3 < 0 then (1 : Int32) else (if x3 ≤ v2 then (0 : Int32) else 1)) = 0 then x2 else ((10 * x4) + x5))), some (.int (if (if x3 < 0 then (1 : Int32) else (if x3 ≤ v2 then (0 : Int32) else 1)) = 0 then x3 else v2)), some (.int x4), some (.int x5), some (.int v2), some (.int (if x3 < 0 then (1 : Int32) else (if x3 ≤ v2 then (0 : Int32) else 1)))]) rfl).trans ?_
    refine (rn_inc d_M_nearest_121 rfl (c := 1) (by decide) (ls' := [some (.ref 123), some (.int x1), some (.int (if (if x3 < 0 then (1 : Int32) else (if x3 ≤ v2 then (0 : Int32) else 1)) = 0 then x2 else ((10 * x4) + x5))), some (.int (if (if x3 < 0 then (1 : Int32) else (if x3 ≤ v2 then (0 : Int32) else 1)) = 0 then x3 else v2)), some (.int x4), some (.int (x5 + 1)), some (.int v2), some (.int (if x3 < 0 then (1 : Int32) else (if x3 ≤ v2 then (0 : Int32) else 1)))]) rfl).trans ?_
    refine (rn_goto d_M_nearest_124 (t := 46) (by decide)).trans ?_
    rfl
theorem e_M_nearest {X : zX} {x1 : Int32} {h : zH} : zcf X m_M_nearest [.ref 123, .int x1] h = (zbI (zcf X m_M_in [.long (Int32.toInt64 x1), .long 0, .long 1] ((zup h.1 123 7 0), h.2)) fun v2 h1 => (if v2 = 0 then (zbI (zcf X m_M_refuse [.ref 123, .int (-2)] h1) fun v4 h3 => (some (some (.int v4), h3))) else zrn X 1 m_M_nearest 31 [some (.ref 123), some (.int x1), some (.int (-9)), some (.int (-9)), some (.int 0), none, none, none] [] h1)) := by
  refine (zcf_run (Nat.le_of_ble_eq_true rfl)).trans ?_
  show zrn X 1 m_M_nearest 0 [some (.ref 123), some (.int x1), none, none, none, none, none, none] [] h = _
  refine (rn_ld d_M_nearest_0 rfl rfl rfl rfl).trans ?_
  refine (rn_push d_M_nearest_1 zcs_iconst_0).trans ?_
  refine (rn_pi d_M_nearest_2 f_4_61 zc_123).trans ?_
  refine (rn_ld d_M_nearest_5 rfl rfl rfl rfl).trans ?_
  refine (rn_i2l d_M_nearest_6).trans ?_
  refine (rn_push d_M_nearest_7 zcs_lconst_0).trans ?_
  refine (rn_push d_M_nearest_8 zcs_lconst_1).trans ?_
  refine (rn_sI d_M_nearest_9 nb_4_68 (zinv_s l_4_68 (by decide) (Nat.le_of_ble_eq_true rfl) rfl rfl (Nat.le_of_ble_eq_true rfl)) (Nat.le_of_ble_eq_true rfl) (Or.inr rfl)).trans (zbI_congr fun v2 h1 => ?_)
  refine (rn_if_ne d_M_nearest_12 (t := 22) (by decide)).trans (zif ?_ ?_)
  · refine (rn_ld d_M_nearest_15 rfl rfl rfl rfl).trans ?_
    refine (rn_push d_M_nearest_16 zcs_bipush_m2).trans ?_
    refine (rn_vI d_M_nearest_18 (zinv_v l_4_123 (by decide) (Nat.le_of_ble_eq_true rfl) rfl rfl zc_123 (Nat.le_of_ble_eq_true rfl)) (Nat.le_of_ble_eq_true rfl) (Or.inl rfl)).trans (zbI_congr fun v4 h3 => ?_)
    exact rn_ri d_M_nearest_21 rfl
  · refine (rn_push d_M_nearest_22 zcs_bipush_m9).trans ?_
    refine (rn_st d_M_nearest_24 rfl rfl rfl (by decide) rfl (Nat.le_of_ble_eq_true rfl) (ls' := [some (.ref 123), some (.int x1), some (.int (-9)), none, none, none, none, none]) rfl).trans ?_
    refine (rn_push d_M_nearest_25 zcs_bipush_m9).trans ?_
    refine (rn_st d_M_nearest_27 rfl rfl rfl (by decide) rfl (Nat.le_of_ble_eq_true rfl) (ls' := [some (.ref 123), some (.int x1), some (.int (-9)), some (.int (-9)), none, none, none, none]) rfl).trans ?_
    refine (rn_push d_M_nearest_28 zcs_iconst_0).trans ?_
    refine (rn_st d_M_nearest_29 rfl rfl rfl (by decide) rfl (Nat.le_of_ble_eq_true rfl) (ls' := [some (.ref 123), some (.int x1), some (.int (-9)), some (.int (-9)), some (.int 0), none, none, none]) rfl).trans ?_
    rfl
theorem e_M_apart {X : zX} {x0 : Int32} {x1 : Int32} {h : zH} : zcf X m_M_apart [.int x0, .int x1] h = (some (some (.int ((if 0 ≤ ((x0 / 6) - (x1 / 6)) then ((x0 / 6) - (x1 / 6)) else (-((x0 / 6) - (x1 / 6)))) + (if 0 ≤ ((zrem x0 6) - (zrem x1 6)) then ((zrem x0 6) - (zrem x1 6)) else (-((zrem x0 6) - (zrem x1 6)))))), h)) := by
  refine (zcf_run (Nat.le_of_ble_eq_true rfl)).trans ?_
  show zrn X 0 m_M_apart 0 [some (.int x0), some (.int x1), none, none] [] h = _
  refine (rn_ld d_M_apart_0 rfl rfl rfl rfl).trans ?_
  refine (rn_push d_M_apart_1 zcs_bipush_6).trans ?_
  refine (rn_a2 d_M_apart_3 (zar_div (by decide))).trans ?_
  refine (rn_ld d_M_apart_4 rfl rfl rfl rfl).trans ?_
  refine (rn_push d_M_apart_5 zcs_bipush_6).trans ?_
  refine (rn_a2 d_M_apart_7 (zar_div (by decide))).trans ?_
  refine (rn_a2 d_M_apart_8 rfl).trans ?_
  refine (rn_st d_M_apart_9 rfl rfl rfl (by decide) rfl (Nat.le_of_ble_eq_true rfl) (ls' := [some (.int x0), some (.int x1), some (.int ((x0 / 6) - (x1 / 6))), none]) rfl).trans ?_
  refine (rn_ld d_M_apart_10 rfl rfl rfl rfl).trans ?_
  refine (rn_push d_M_apart_11 zcs_bipush_6).trans ?_
  refine (rn_a2 d_M_apart_13 (zar_rem (by decide))).trans ?_
  refine (rn_ld d_M_apart_14 rfl rfl rfl rfl).trans ?_
  refine (rn_push d_M_apart_15 zcs_bipush_6).trans ?_
  refine (rn_a2 d_M_apart_17 (zar_rem (by decide))).trans ?_
  refine (rn_a2 d_M_apart_18 rfl).trans ?_
  refine (rn_st d_M_apart_19 rfl rfl rfl (by decide) rfl (Nat.le_of_ble_eq_true rfl) (ls' := [some (.int x0), some (.int x1), some (.int ((x0 / 6) - (x1 / 6))), some (.int ((zrem x0 6) - (zrem x1 6)))]) rfl).trans ?_
  refine (rn_ld d_M_apart_20 rfl rfl rfl rfl).trans ?_
  refine Eq.trans (b := zrn X 0 m_M_apart 30 [some (.int x0), some (.int x1), some (.int ((x0 / 6) - (x1 / 6))), some (.int ((zrem x0 6) - (zrem x1 6)))] [.int (if 0 ≤ ((x0 / 6) - (x1 / 6)) then ((x0 / 6) - (x1 / 6)) else (-((x0 / 6) - (x1 / 6))))] h) ?_ ?_
  · refine (rn_if_ge d_M_apart_21 (t := 29) (by decide)).trans ?_
    by_cases q1 : 0 ≤ ((x0 / 6) - (x1 / 6))
    · simp only [if_pos q1]
      refine (rn_ld d_M_apart_29 rfl rfl rfl rfl).trans ?_
      all_goals rfl
    · simp only [if_neg q1]
      refine (rn_ld d_M_apart_24 rfl rfl rfl rfl).trans ?_
      refine (rn_neg d_M_apart_25).trans ?_
      refine (rn_goto d_M_apart_26 (t := 30) (by decide)).trans ?_
      all_goals rfl
  refine (rn_ld d_M_apart_30 rfl rfl rfl rfl).trans ?_
  refine Eq.trans (b := zrn X 0 m_M_apart 40 [some (.int x0), some (.int x1), some (.int ((x0 / 6) - (x1 / 6))), some (.int ((zrem x0 6) - (zrem x1 6)))] [.int (if 0 ≤ ((zrem x0 6) - (zrem x1 6)) then ((zrem x0 6) - (zrem x1 6)) else (-((zrem x0 6) - (zrem x1 6)))), .int (if 0 ≤ ((x0 / 6) - (x1 / 6)) then ((x0 / 6) - (x1 / 6)) else (-((x0 / 6) - (x1 / 6))))] h) ?_ ?_
  · refine (rn_if_ge d_M_apart_31 (t := 39) (by decide)).trans ?_
    by_cases q2 : 0 ≤ ((zrem x0 6) - (zrem x1 6))
    · simp only [if_pos q2]
      refine (rn_ld d_M_apart_39 rfl rfl rfl rfl).trans ?_
      all_goals rfl
    · simp only [if_neg q2]
      refine (rn_ld d_M_apart_34 rfl rfl rfl rfl).trans ?_
      refine (rn_neg d_M_apart_35).trans ?_
      refine (rn_goto d_M_apart_36 (t := 40) (by decide)).trans ?_
      all_goals rfl
  refine (rn_a2 d_M_apart_40 rfl).trans ?_
  exact rn_ri d_M_apart_41 rfl
theorem b_M_lines_9 {X : zX} {x1 : Int32} {x2 : Int32} {g3 : Option Value} {g4 : Option Value} {g5 : Option Value} {h : zH} : zrn X 0 m_M_lines 9 [some (.ref 123), some (.int x1), some (.int x2), g3, g4, g5] [] h = (if 6 ≤ x2 then (some (some (.int x1), h)) else zrn X 0 m_M_lines 23 [some (.ref 123), some (.int x1), some (.int x2), some (.int 0), some (.int 0), some (.int 0)] [] h) := by
  refine (rn_ld d_M_lines_9 rfl rfl rfl rfl).trans ?_
  refine (rn_push d_M_lines_10 zcs_bipush_6).trans ?_
  refine (rn_ic_ge d_M_lines_12 (t := 115) (by decide)).trans (zif ?_ ?_)
  · refine (rn_ld d_M_lines_115 rfl rfl rfl rfl).trans ?_
    exact rn_ri d_M_lines_116 rfl
  · refine (rn_push d_M_lines_15 zcs_iconst_0).trans ?_
    refine (rn_st d_M_lines_16 rfl rfl rfl (by decide) rfl (Nat.le_of_ble_eq_true rfl) (ls' := [some (.ref 123), some (.int x1), some (.int x2), some (.int 0), g4, g5]) rfl).trans ?_
    refine (rn_push d_M_lines_17 zcs_iconst_0).trans ?_
    refine (rn_st d_M_lines_18 rfl rfl rfl (by decide) rfl (Nat.le_of_ble_eq_true rfl) (ls' := [some (.ref 123), some (.int x1), some (.int x2), some (.int 0), some (.int 0), g5]) rfl).trans ?_
    refine (rn_push d_M_lines_20 zcs_iconst_0).trans ?_
    refine (rn_st d_M_lines_21 rfl rfl rfl (by decide) rfl (Nat.le_of_ble_eq_true rfl) (ls' := [some (.ref 123), some (.int x1), some (.int x2), some (.int 0), some (.int 0), some (.int 0)]) rfl).trans ?_
    rfl
theorem b_M_lines_23 {X : zX} {x1 : Int32} {x2 : Int32} {x3 : Int32} {x4 : Int32} {x5 : Int32} {h : zH} : zrn X 0 m_M_lines 23 [some (.ref 123), some (.int x1), some (.int x2), some (.int x3), some (.int x4), some (.int x5)] [] h = (if (h.1 123 0) ≤ x5 then zrn X 0 m_M_lines 9 [some (.ref 123), some (.int (x1 + ((if x3 ≤ 1 then (0 : Int32) else 1) + (if x4 ≤ 1 then (0 : Int32) else 1)))), some (.int (x2 + 1)), some (.int x3), some (.int x4), some (.int x5)] [] h else (if zin x5 7 = true then (if zin x5 7 = true then zrn X 0 m_M_lines 23 [some (.ref 123), some (.int x1), some (.int x2), some (.int (x3 + (if ((h.1 126 (Int32.toNatClampNeg x5)) / 6) = x2 then (1 : Int32) else 0))), some (.int (x4 + (if (zrem (h.1 126 (Int32.toNatClampNeg x5)) 6) = x2 then (1 : Int32) else 0))), some (.int (x5 + 1))] [] h else none) else none)) := by
  refine (rn_ld d_M_lines_23 rfl rfl rfl rfl).trans ?_
  refine (rn_ld d_M_lines_25 rfl rfl rfl rfl).trans ?_
  refine (rn_gi d_M_lines_26 f_4_65 zc_123).trans ?_
  refine (rn_ic_ge d_M_lines_29 (t := 84) (by decide)).trans (zif ?_ ?_)
  · refine (rn_ld d_M_lines_84 rfl rfl rfl rfl).trans ?_
    refine (rn_ld d_M_lines_85 rfl rfl rfl rfl).trans ?_
    refine (rn_push d_M_lines_86 zcs_iconst_1).trans ?_
    refine Eq.trans (b := zrn X 0 m_M_lines 95 [some (.ref 123), some (.int x1), some (.int x2), some (.int x3), some (.int x4), some (.int x5)] [.int (if x3 ≤ 1 then (0 : Int32) else 1), .int x1] h) ?_ ?_
    · refine (rn_ic_le d_M_lines_87 (t := 94) (by decide)).trans ?_
      by_cases q1 : x3 ≤ 1
      · simp only [if_pos q1]
        refine (rn_push d_M_lines_94 zcs_iconst_0).trans ?_
        all_goals rfl
      · simp only [if_neg q1]
        refine (rn_push d_M_lines_90 zcs_iconst_1).trans ?_
        refine (rn_goto d_M_lines_91 (t := 95) (by decide)).trans ?_
        all_goals rfl
    refine (rn_ld d_M_lines_95 rfl rfl rfl rfl).trans ?_
    refine (rn_push d_M_lines_97 zcs_iconst_1).trans ?_
    refine Eq.trans (b := zrn X 0 m_M_lines 106 [some (.ref 123), some (.int x1), some (.int x2), some (.int x3), some (.int x4), some (.int x5)] [.int (if x4 ≤ 1 then (0 : Int32) else 1), .int (if x3 ≤ 1 then (0 : Int32) else 1), .int x1] h) ?_ ?_
    · refine (rn_ic_le d_M_lines_98 (t := 105) (by decide)).trans ?_
      by_cases q2 : x4 ≤ 1
      · simp only [if_pos q2]
        refine (rn_push d_M_lines_105 zcs_iconst_0).trans ?_
        all_goals rfl
      · simp only [if_neg q2]
        refine (rn_push d_M_lines_101 zcs_iconst_1).trans ?_
        refine (rn_goto d_M_lines_102 (t := 106) (by decide)).trans ?_
        all_goals rfl
    refine (rn_a2 d_M_lines_106 rfl).trans ?_
    refine (rn_a2 d_M_lines_107 rfl).trans ?_
    refine (rn_st d_M_lines_108 rfl rfl rfl (by decide) rfl (Nat.le_of_ble_eq_true rfl) (ls' := [some (.ref 123), some (.int (x1 + ((if x3 ≤ 1 then (0 : Int32) else 1) + (if x4 ≤ 1 then (0 : Int32) else 1)))), some (.int x2), some (.int x3), some (.int x4), some (.int x5)]) rfl).trans ?_
    refine (rn_inc d_M_lines_109 rfl (c := 1) (by decide) (ls' := [some (.ref 123), some (.int (x1 + ((if x3 ≤ 1 then (0 : Int32) else 1) + (if x4 ≤ 1 then (0 : Int32) else 1)))), some (.int (x2 + 1)), some (.int x3), some (.int x4), some (.int x5)]) rfl).trans ?_
    refine (rn_goto d_M_lines_112 (t := 9) (by decide)).trans ?_
    rfl
  · refine (rn_ld d_M_lines_32 rfl rfl rfl rfl).trans ?_
    refine (rn_ld d_M_lines_33 rfl rfl rfl rfl).trans ?_
    refine (rn_gr d_M_lines_34 f_4_16 zc_123 zr_123_3).trans ?_
    refine (rn_ld d_M_lines_37 rfl rfl rfl rfl).trans ?_
    refine (rn_ial d_M_lines_39 (by decide) zc_126).trans (zif ?_ rfl)
    refine (rn_push d_M_lines_40 zcs_bipush_6).trans ?_
    refine (rn_a2 d_M_lines_42 (zar_div (by decide))).trans ?_
    refine (rn_ld d_M_lines_43 rfl rfl rfl rfl).trans ?_
    refine Eq.trans (b := zrn X 0 m_M_lines 52 [some (.ref 123), some (.int x1), some (.int x2), some (.int x3), some (.int x4), some (.int x5)] [.int (if ((h.1 126 (Int32.toNatClampNeg x5)) / 6) = x2 then (1 : Int32) else 0), .int x3] h) ?_ ?_
    · refine (rn_ic_ne d_M_lines_44 (t := 51) (by decide)).trans ?_
      by_cases q3 : ((h.1 126 (Int32.toNatClampNeg x5)) / 6) = x2
      · simp only [if_pos q3]
        refine (rn_push d_M_lines_47 zcs_iconst_1).trans ?_
        refine (rn_goto d_M_lines_48 (t := 52) (by decide)).trans ?_
        all_goals rfl
      · simp only [if_neg q3]
        refine (rn_push d_M_lines_51 zcs_iconst_0).trans ?_
        all_goals rfl
    refine (rn_a2 d_M_lines_52 rfl).trans ?_
    refine (rn_st d_M_lines_53 rfl rfl rfl (by decide) rfl (Nat.le_of_ble_eq_true rfl) (ls' := [some (.ref 123), some (.int x1), some (.int x2), some (.int (x3 + (if ((h.1 126 (Int32.toNatClampNeg x5)) / 6) = x2 then (1 : Int32) else 0))), some (.int x4), some (.int x5)]) rfl).trans ?_
    refine (rn_ld d_M_lines_54 rfl rfl rfl rfl).trans ?_
    refine (rn_ld d_M_lines_56 rfl rfl rfl rfl).trans ?_
    refine (rn_gr d_M_lines_57 f_4_16 zc_123 zr_123_3).trans ?_
    refine (rn_ld d_M_lines_60 rfl rfl rfl rfl).trans ?_
    refine (rn_ial d_M_lines_62 (by decide) zc_126).trans (zif ?_ rfl)
    refine (rn_push d_M_lines_63 zcs_bipush_6).trans ?_
    refine (rn_a2 d_M_lines_65 (zar_rem (by decide))).trans ?_
    refine (rn_ld d_M_lines_66 rfl rfl rfl rfl).trans ?_
    refine Eq.trans (b := zrn X 0 m_M_lines 75 [some (.ref 123), some (.int x1), some (.int x2), some (.int (x3 + (if ((h.1 126 (Int32.toNatClampNeg x5)) / 6) = x2 then (1 : Int32) else 0))), some (.int x4), some (.int x5)] [.int (if (zrem (h.1 126 (Int32.toNatClampNeg x5)) 6) = x2 then (1 : Int32) else 0), .int x4] h) ?_ ?_
    · refine (rn_ic_ne d_M_lines_67 (t := 74) (by decide)).trans ?_
      by_cases q4 : (zrem (h.1 126 (Int32.toNatClampNeg x5)) 6) = x2
      · simp only [if_pos q4]
        refine (rn_push d_M_lines_70 zcs_iconst_1).trans ?_
        refine (rn_goto d_M_lines_71 (t := 75) (by decide)).trans ?_
        all_goals rfl
      · simp only [if_neg q4]
        refine (rn_push d_M_lines_74 zcs_iconst_0).trans ?_
        all_goals rfl
    refine (rn_a2 d_M_lines_75 rfl).trans ?_
    refine (rn_st d_M_lines_76 rfl rfl rfl (by decide) rfl (Nat.le_of_ble_eq_true rfl) (ls' := [some (.ref 123), some (.int x1), some (.int x2), some (.int (x3 + (if ((h.1 126 (Int32.toNatClampNeg x5)) / 6) = x2 then (1 : Int32) else 0))), some (.int (x4 + (if (zrem (h.1 126 (Int32.toNatClampNeg x5)) 6) = x2 then (1 : Int32) else 0))), some (.int x5)]) rfl).trans ?_
    refine (rn_inc d_M_lines_78 rfl (c := 1) (by decide) (ls' := [some (.ref 123), some (.int x1), some (.int x2), some (.int (x3 + (if ((h.1 126 (Int32.toNatClampNeg x5)) / 6) = x2 then (1 : Int32) else 0))), some (.int (x4 + (if (zrem (h.1 126 (Int32.toNatClampNeg x5)) 6) = x2 then (1 : Int32) else 0))), some (.int (x5 + 1))]) rfl).trans ?_
    refine (rn_goto d_M_lines_81 (t := 23) (by decide)).trans ?_
    rfl
theorem e_M_lines {X : zX} {h : zH} : zcf X m_M_lines [.ref 123] h = zrn X 0 m_M_lines 9 [some (.ref 123), some (.int 0), some (.int 0), none, none, none] [] ((zup h.1 123 7 0), h.2) := by
  refine (zcf_run (Nat.le_of_ble_eq_true rfl)).trans ?_
  show zrn X 0 m_M_lines 0 [some (.ref 123), none, none, none, none, none] [] h = _
  refine (rn_ld d_M_lines_0 rfl rfl rfl rfl).trans ?_
  refine (rn_push d_M_lines_1 zcs_iconst_0).trans ?_
  refine (rn_pi d_M_lines_2 f_4_61 zc_123).trans ?_
  refine (rn_push d_M_lines_5 zcs_iconst_0).trans ?_
  refine (rn_st d_M_lines_6 rfl rfl rfl (by decide) rfl (Nat.le_of_ble_eq_true rfl) (ls' := [some (.ref 123), some (.int 0), none, none, none, none]) rfl).trans ?_
  refine (rn_push d_M_lines_7 zcs_iconst_0).trans ?_
  refine (rn_st d_M_lines_8 rfl rfl rfl (by decide) rfl (Nat.le_of_ble_eq_true rfl) (ls' := [some (.ref 123), some (.int 0), some (.int 0), none, none, none]) rfl).trans ?_
  rfl
theorem b_M_hidden_16 {X : zX} {x1 : Int32} {x2 : Int32} {g3 : Option Value} {h : zH} : zrn X 3 m_M_hidden 16 [some (.ref 123), some (.int x1), some (.int x2), g3] [] h = (if (h.1 123 0) ≤ x2 then (some (some (.int x1), h)) else (if zin x2 7 = true then (if zin x2 7 = true then (zbI (zcf X m_M_nextFrom [.ref 123, .int (h.1 126 (Int32.toNatClampNeg x2)), .int (h.1 127 (Int32.toNatClampNeg x2)), .int 5] h) fun v2 h1 => zrn X 3 m_M_hidden 16 [some (.ref 123), some (.int (x1 &&& (if 0 ≤ v2 then (((1 : Int32) <<< (v2 &&& 31)) ^^^ (-1)) else x1))), some (.int (x2 + 1)), some (.int v2)] [] h1) else none) else none)) := by
  refine (rn_ld d_M_hidden_16 rfl rfl rfl rfl).trans ?_
  refine (rn_ld d_M_hidden_17 rfl rfl rfl rfl).trans ?_
  refine (rn_gi d_M_hidden_18 f_4_65 zc_123).trans ?_
  refine (rn_ic_ge d_M_hidden_21 (t := 64) (by decide)).trans (zif ?_ ?_)
  · refine (rn_ld d_M_hidden_64 rfl rfl rfl rfl).trans ?_
    exact rn_ri d_M_hidden_65 rfl
  · refine (rn_ld d_M_hidden_24 rfl rfl rfl rfl).trans ?_
    refine (rn_ld d_M_hidden_25 rfl rfl rfl rfl).trans ?_
    refine (rn_gr d_M_hidden_26 f_4_16 zc_123 zr_123_3).trans ?_
    refine (rn_ld d_M_hidden_29 rfl rfl rfl rfl).trans ?_
    refine (rn_ial d_M_hidden_30 (by decide) zc_126).trans (zif ?_ rfl)
    refine (rn_ld d_M_hidden_31 rfl rfl rfl rfl).trans ?_
    refine (rn_gr d_M_hidden_32 f_4_19 zc_123 zr_123_4).trans ?_
    refine (rn_ld d_M_hidden_35 rfl rfl rfl rfl).trans ?_
    refine (rn_ial d_M_hidden_36 (by decide) zc_127).trans (zif ?_ rfl)
    refine (rn_push d_M_hidden_37 zcs_iconst_5).trans ?_
    refine (rn_vI d_M_hidden_38 (zinv_v l_4_91 (by decide) (Nat.le_of_ble_eq_true rfl) rfl rfl zc_123 (Nat.le_of_ble_eq_true rfl)) (Nat.le_of_ble_eq_true rfl) (Or.inl rfl)).trans (zbI_congr fun v2 h1 => ?_)
    refine (rn_st d_M_hidden_41 rfl rfl rfl (by decide) rfl (Nat.le_of_ble_eq_true rfl) (ls' := [some (.ref 123), some (.int x1), some (.int x2), some (.int v2)]) rfl).trans ?_
    refine (rn_ld d_M_hidden_42 rfl rfl rfl rfl).trans ?_
    refine (rn_ld d_M_hidden_43 rfl rfl rfl rfl).trans ?_
    refine Eq.trans (b := zrn X 3 m_M_hidden 56 [some (.ref 123), some (.int x1), some (.int x2), some (.int v2)] [.int (if 0 ≤ v2 then (((1 : Int32) <<< (v2 &&& 31)) ^^^ (-1)) else x1), .int x1] h1) ?_ ?_
    · refine (rn_if_ge d_M_hidden_44 (t := 51) (by decide)).trans ?_
      by_cases q3 : 0 ≤ v2
      · simp only [if_pos q3]
        refine (rn_push d_M_hidden_51 zcs_iconst_1).trans ?_
        refine (rn_ld d_M_hidden_52 rfl rfl rfl rfl).trans ?_
        refine (rn_a2 d_M_hidden_53 rfl).trans ?_
        refine (rn_push d_M_hidden_54 zcs_iconst_m1).trans ?_
        refine (rn_a2 d_M_hidden_55 rfl).trans ?_
        all_goals rfl
      · simp only [if_neg q3]
        refine (rn_ld d_M_hidden_47 rfl rfl rfl rfl).trans ?_
        refine (rn_goto d_M_hidden_48 (t := 56) (by decide)).trans ?_
        all_goals rfl
    refine (rn_a2 d_M_hidden_56 rfl).trans ?_
    refine (rn_st d_M_hidden_57 rfl rfl rfl (by decide) rfl (Nat.le_of_ble_eq_true rfl) (ls' := [some (.ref 123), some (.int (x1 &&& (if 0 ≤ v2 then (((1 : Int32) <<< (v2 &&& 31)) ^^^ (-1)) else x1))), some (.int x2), some (.int v2)]) rfl).trans ?_
    refine (rn_inc d_M_hidden_58 rfl (c := 1) (by decide) (ls' := [some (.ref 123), some (.int (x1 &&& (if 0 ≤ v2 then (((1 : Int32) <<< (v2 &&& 31)) ^^^ (-1)) else x1))), some (.int (x2 + 1)), some (.int v2)]) rfl).trans ?_
    refine (rn_goto d_M_hidden_61 (t := 16) (by decide)).trans ?_
    rfl
theorem e_M_hidden {X : zX} {h : zH} : zcf X m_M_hidden [.ref 123] h = zrn X 3 m_M_hidden 16 [some (.ref 123), some (.int (((1 : Int32) <<< (((zup h.1 123 7 0) 123 0) &&& 31)) - 1)), some (.int 0), none] [] ((zup h.1 123 7 0), h.2) := by
  refine (zcf_run (Nat.le_of_ble_eq_true rfl)).trans ?_
  show zrn X 3 m_M_hidden 0 [some (.ref 123), none, none, none] [] h = _
  refine (rn_ld d_M_hidden_0 rfl rfl rfl rfl).trans ?_
  refine (rn_push d_M_hidden_1 zcs_iconst_0).trans ?_
  refine (rn_pi d_M_hidden_2 f_4_61 zc_123).trans ?_
  refine (rn_push d_M_hidden_5 zcs_iconst_1).trans ?_
  refine (rn_ld d_M_hidden_6 rfl rfl rfl rfl).trans ?_
  refine (rn_gi d_M_hidden_7 f_4_65 zc_123).trans ?_
  refine (rn_a2 d_M_hidden_10 rfl).trans ?_
  refine (rn_push d_M_hidden_11 zcs_iconst_1).trans ?_
  refine (rn_a2 d_M_hidden_12 rfl).trans ?_
  refine (rn_st d_M_hidden_13 rfl rfl rfl (by decide) rfl (Nat.le_of_ble_eq_true rfl) (ls' := [some (.ref 123), some (.int (((1 : Int32) <<< (((zup h.1 123 7 0) 123 0) &&& 31)) - 1)), none, none]) rfl).trans ?_
  refine (rn_push d_M_hidden_14 zcs_iconst_0).trans ?_
  refine (rn_st d_M_hidden_15 rfl rfl rfl (by decide) rfl (Nat.le_of_ble_eq_true rfl) (ls' := [some (.ref 123), some (.int (((1 : Int32) <<< (((zup h.1 123 7 0) 123 0) &&& 31)) - 1)), some (.int 0), none]) rfl).trans ?_
  rfl
theorem b_M_longest_10 {X : zX} {x1 : Int32} {x2 : Int32} {h : zH} : zrn X 1 m_M_longest 10 [some (.ref 123), some (.int x1), some (.int x2)] [] h = (if (h.1 123 0) ≤ x2 then (some (some (.int x1), h)) else (if x1 < 0 then zrn X 1 m_M_longest 10 [some (.ref 123), some (.int x2), some (.int (x2 + 1))] [] h else (zbI (zcf X m_M_reachOf [.ref 123, .int x2] h) fun v2 h1 => (zbI (zcf X m_M_reachOf [.ref 123, .int x1] h1) fun v4 h3 => zrn X 1 m_M_longest 10 [some (.ref 123), some (.int (if v2 ≤ v4 then x1 else x2)), some (.int (x2 + 1))] [] h3)))) := by
  refine (rn_ld d_M_longest_10 rfl rfl rfl rfl).trans ?_
  refine (rn_ld d_M_longest_11 rfl rfl rfl rfl).trans ?_
  refine (rn_gi d_M_longest_12 f_4_65 zc_123).trans ?_
  refine (rn_ic_ge d_M_longest_15 (t := 47) (by decide)).trans (zif ?_ ?_)
  · refine (rn_ld d_M_longest_47 rfl rfl rfl rfl).trans ?_
    exact rn_ri d_M_longest_48 rfl
  · refine (rn_ld d_M_longest_18 rfl rfl rfl rfl).trans ?_
    refine (rn_if_lt d_M_longest_19 (t := 35) (by decide)).trans (zif ?_ ?_)
    · refine (rn_ld d_M_longest_35 rfl rfl rfl rfl).trans ?_
      refine (rn_goto d_M_longest_36 (t := 40) (by decide)).trans ?_
      refine (rn_st d_M_longest_40 rfl rfl rfl (by decide) rfl (Nat.le_of_ble_eq_true rfl) (ls' := [some (.ref 123), some (.int x2), some (.int x2)]) rfl).trans ?_
      refine (rn_inc d_M_longest_41 rfl (c := 1) (by decide) (ls' := [some (.ref 123), some (.int x2), some (.int (x2 + 1))]) rfl).trans ?_
      refine (rn_goto d_M_longest_44 (t := 10) (by decide)).trans ?_
      rfl
    · refine (rn_ld d_M_longest_22 rfl rfl rfl rfl).trans ?_
      refine (rn_ld d_M_longest_23 rfl rfl rfl rfl).trans ?_
      refine (rn_vI d_M_longest_24 (zinv_v l_4_88 (by decide) (Nat.le_of_ble_eq_true rfl) rfl rfl zc_123 (Nat.le_of_ble_eq_true rfl)) (Nat.le_of_ble_eq_true rfl) (Or.inl rfl)).trans (zbI_congr fun v2 h1 => ?_)
      refine (rn_ld d_M_longest_27 rfl rfl rfl rfl).trans ?_
      refine (rn_ld d_M_longest_28 rfl rfl rfl rfl).trans ?_
      refine (rn_vI d_M_longest_29 (zinv_v l_4_88 (by decide) (Nat.le_of_ble_eq_true rfl) rfl rfl zc_123 (Nat.le_of_ble_eq_true rfl)) (Nat.le_of_ble_eq_true rfl) (Or.inl rfl)).trans (zbI_congr fun v4 h3 => ?_)
      refine Eq.trans (b := zrn X 1 m_M_longest 40 [some (.ref 123), some (.int x1), some (.int x2)] [.int (if v2 ≤ v4 then x1 else x2)] h3) ?_ ?_
      · refine (rn_ic_le d_M_longest_32 (t := 39) (by decide)).trans ?_
        by_cases q5 : v2 ≤ v4
        · simp only [if_pos q5]
          refine (rn_ld d_M_longest_39 rfl rfl rfl rfl).trans ?_
          all_goals rfl
        · simp only [if_neg q5]
          refine (rn_ld d_M_longest_35 rfl rfl rfl rfl).trans ?_
          refine (rn_goto d_M_longest_36 (t := 40) (by decide)).trans ?_
          all_goals rfl
      refine (rn_st d_M_longest_40 rfl rfl rfl (by decide) rfl (Nat.le_of_ble_eq_true rfl) (ls' := [some (.ref 123), some (.int (if v2 ≤ v4 then x1 else x2)), some (.int x2)]) rfl).trans ?_
      refine (rn_inc d_M_longest_41 rfl (c := 1) (by decide) (ls' := [some (.ref 123), some (.int (if v2 ≤ v4 then x1 else x2)), some (.int (x2 + 1))]) rfl).trans ?_
      refine (rn_goto d_M_longest_44 (t := 10) (by decide)).trans ?_
      rfl
theorem e_M_longest {X : zX} {h : zH} : zcf X m_M_longest [.ref 123] h = zrn X 1 m_M_longest 10 [some (.ref 123), some (.int (-9)), some (.int 0)] [] ((zup h.1 123 7 0), h.2) := by
  refine (zcf_run (Nat.le_of_ble_eq_true rfl)).trans ?_
  show zrn X 1 m_M_longest 0 [some (.ref 123), none, none] [] h = _
  refine (rn_ld d_M_longest_0 rfl rfl rfl rfl).trans ?_
  refine (rn_push d_M_longest_1 zcs_iconst_0).trans ?_
  refine (rn_pi d_M_longest_2 f_4_61 zc_123).trans ?_
  refine (rn_push d_M_longest_5 zcs_bipush_m9).trans ?_
  refine (rn_st d_M_longest_7 rfl rfl rfl (by decide) rfl (Nat.le_of_ble_eq_true rfl) (ls' := [some (.ref 123), some (.int (-9)), none]) rfl).trans ?_
  refine (rn_push d_M_longest_8 zcs_iconst_0).trans ?_
  refine (rn_st d_M_longest_9 rfl rfl rfl (by decide) rfl (Nat.le_of_ble_eq_true rfl) (ls' := [some (.ref 123), some (.int (-9)), some (.int 0)]) rfl).trans ?_
  rfl
theorem b_M_walks_56 {X : zX} {x1 : Int32} {x2 : Int32} {x3 : Int32} {x4 : Int32} {x5 : Int32} {x6 : Int32} {x7 : Int32} {g8 : Option Value} {h : zH} : zrn X 6 m_M_walks 56 [some (.ref 123), some (.int x1), some (.int x2), some (.int x3), some (.int x4), some (.int x5), some (.int x6), some (.int x7), g8] [] h = (if x2 ≤ x7 then (zbV (zcf X m_M_again [.ref 123] h) fun h1 => (if x3 = 0 then (some (some (.int x5), h1)) else (some (some (.int x6), h1)))) else (if zin x1 7 = true then (zbV (zcf X m_M_nightBy [.ref 123, .int (-9)] h) fun h2 => (zbI (zcf X m_M_hasBit [.int (h2.1 123 9), .int x1] h2) fun v4 h3 => (if zin x1 7 = true then zrn X 6 m_M_walks 56 [some (.ref 123), some (.int x1), some (.int x2), some (.int x3), some (.int x4), some (.int (x5 + (if v4 = 0 then (0 : Int32) else 1))), some (.int (x6 + (if (h3.1 127 (Int32.toNatClampNeg x1)) = (h.1 127 (Int32.toNatClampNeg x1)) then (0 : Int32) else 1))), some (.int (x7 + 1)), some (.int (h.1 127 (Int32.toNatClampNeg x1)))] [] h3 else none))) else none)) := by
  refine (rn_ld d_M_walks_56 rfl rfl rfl rfl).trans ?_
  refine (rn_ld d_M_walks_58 rfl rfl rfl rfl).trans ?_
  refine (rn_ic_ge d_M_walks_59 (t := 124) (by decide)).trans (zif ?_ ?_)
  · refine (rn_ld d_M_walks_124 rfl rfl rfl rfl).trans ?_
    refine (rn_vV d_M_walks_125 (zinv_v l_4_174 (by decide) (Nat.le_of_ble_eq_true rfl) rfl rfl zc_123 (Nat.le_of_ble_eq_true rfl)) (Nat.le_of_ble_eq_true rfl) rfl).trans (zbV_congr fun h1 => ?_)
    refine (rn_ld d_M_walks_128 rfl rfl rfl rfl).trans ?_
    refine (rn_if_ne d_M_walks_129 (t := 137) (by decide)).trans (zif ?_ ?_)
    · refine (rn_ld d_M_walks_132 rfl rfl rfl rfl).trans ?_
      refine (rn_goto d_M_walks_134 (t := 139) (by decide)).trans ?_
      exact rn_ri d_M_walks_139 rfl
    · refine (rn_ld d_M_walks_137 rfl rfl rfl rfl).trans ?_
      exact rn_ri d_M_walks_139 rfl
  · refine (rn_ld d_M_walks_62 rfl rfl rfl rfl).trans ?_
    refine (rn_gr d_M_walks_63 f_4_19 zc_123 zr_123_4).trans ?_
    refine (rn_ld d_M_walks_66 rfl rfl rfl rfl).trans ?_
    refine (rn_ial d_M_walks_67 (by decide) zc_127).trans (zif ?_ rfl)
    refine (rn_st d_M_walks_68 rfl rfl rfl (by decide) rfl (Nat.le_of_ble_eq_true rfl) (ls' := [some (.ref 123), some (.int x1), some (.int x2), some (.int x3), some (.int x4), some (.int x5), some (.int x6), some (.int x7), some (.int (h.1 127 (Int32.toNatClampNeg x1)))]) rfl).trans ?_
    refine (rn_ld d_M_walks_70 rfl rfl rfl rfl).trans ?_
    refine (rn_push d_M_walks_71 zcs_bipush_m9).trans ?_
    refine (rn_vV d_M_walks_73 (zinv_v l_4_119 (by decide) (Nat.le_of_ble_eq_true rfl) rfl rfl zc_123 (Nat.le_of_ble_eq_true rfl)) (Nat.le_of_ble_eq_true rfl) rfl).trans (zbV_congr fun h2 => ?_)
    refine (rn_ld d_M_walks_76 rfl rfl rfl rfl).trans ?_
    refine (rn_ld d_M_walks_78 rfl rfl rfl rfl).trans ?_
    refine (rn_gi d_M_walks_79 f_4_100 zc_123).trans ?_
    refine (rn_ld d_M_walks_82 rfl rfl rfl rfl).trans ?_
    refine (rn_sI d_M_walks_83 nb_4_221 (zinv_s l_4_221 (by decide) (Nat.le_of_ble_eq_true rfl) rfl rfl (Nat.le_of_ble_eq_true rfl)) (Nat.le_of_ble_eq_true rfl) (Or.inr rfl)).trans (zbI_congr fun v4 h3 => ?_)
    refine Eq.trans (b := zrn X 6 m_M_walks 94 [some (.ref 123), some (.int x1), some (.int x2), some (.int x3), some (.int x4), some (.int x5), some (.int x6), some (.int x7), some (.int (h.1 127 (Int32.toNatClampNeg x1)))] [.int (if v4 = 0 then (0 : Int32) else 1), .int x5] h3) ?_ ?_
    · refine (rn_if_eq d_M_walks_86 (t := 93) (by decide)).trans ?_
      by_cases q5 : v4 = 0
      · simp only [if_pos q5]
        refine (rn_push d_M_walks_93 zcs_iconst_0).trans ?_
        all_goals rfl
      · simp only [if_neg q5]
        refine (rn_push d_M_walks_89 zcs_iconst_1).trans ?_
        refine (rn_goto d_M_walks_90 (t := 94) (by decide)).trans ?_
        all_goals rfl
    refine (rn_a2 d_M_walks_94 rfl).trans ?_
    refine (rn_st d_M_walks_95 rfl rfl rfl (by decide) rfl (Nat.le_of_ble_eq_true rfl) (ls' := [some (.ref 123), some (.int x1), some (.int x2), some (.int x3), some (.int x4), some (.int (x5 + (if v4 = 0 then (0 : Int32) else 1))), some (.int x6), some (.int x7), some (.int (h.1 127 (Int32.toNatClampNeg x1)))]) rfl).trans ?_
    refine (rn_ld d_M_walks_97 rfl rfl rfl rfl).trans ?_
    refine (rn_ld d_M_walks_99 rfl rfl rfl rfl).trans ?_
    refine (rn_gr d_M_walks_100 f_4_19 zc_123 zr_123_4).trans ?_
    refine (rn_ld d_M_walks_103 rfl rfl rfl rfl).trans ?_
    refine (rn_ial d_M_walks_104 (by decide) zc_127).trans (zif ?_ rfl)
    refine (rn_ld d_M_walks_105 rfl rfl rfl rfl).trans ?_
    refine Eq.trans (b := zrn X 6 m_M_walks 115 [some (.ref 123), some (.int x1), some (.int x2), some (.int x3), some (.int x4), some (.int (x5 + (if v4 = 0 then (0 : Int32) else 1))), some (.int x6), some (.int x7), some (.int (h.1 127 (Int32.toNatClampNeg x1)))] [.int (if (h3.1 127 (Int32.toNatClampNeg x1)) = (h.1 127 (Int32.toNatClampNeg x1)) then (0 : Int32) else 1), .int x6] h3) ?_ ?_
    · refine (rn_ic_ne d_M_walks_107 (t := 114) (by decide)).trans ?_
      by_cases q6 : (h3.1 127 (Int32.toNatClampNeg x1)) = (h.1 127 (Int32.toNatClampNeg x1))
      · simp only [if_pos q6]
        refine (rn_push d_M_walks_110 zcs_iconst_0).trans ?_
        refine (rn_goto d_M_walks_111 (t := 115) (by decide)).trans ?_
        all_goals rfl
      · simp only [if_neg q6]
        refine (rn_push d_M_walks_114 zcs_iconst_1).trans ?_
        all_goals rfl
    refine (rn_a2 d_M_walks_115 rfl).trans ?_
    refine (rn_st d_M_walks_116 rfl rfl rfl (by decide) rfl (Nat.le_of_ble_eq_true rfl) (ls' := [some (.ref 123), some (.int x1), some (.int x2), some (.int x3), some (.int x4), some (.int (x5 + (if v4 = 0 then (0 : Int32) else 1))), some (.int (x6 + (if (h3.1 127 (Int32.toNatClampNeg x1)) = (h.1 127 (Int32.toNatClampNeg x1)) then (0 : Int32) else 1))), some (.int x7), some (.int (h.1 127 (Int32.toNatClampNeg x1)))]) rfl).trans ?_
    refine (rn_inc d_M_walks_118 rfl (c := 1) (by decide) (ls' := [some (.ref 123), some (.int x1), some (.int x2), some (.int x3), some (.int x4), some (.int (x5 + (if v4 = 0 then (0 : Int32) else 1))), some (.int (x6 + (if (h3.1 127 (Int32.toNatClampNeg x1)) = (h.1 127 (Int32.toNatClampNeg x1)) then (0 : Int32) else 1))), some (.int (x7 + 1)), some (.int (h.1 127 (Int32.toNatClampNeg x1)))]) rfl).trans ?_
    refine (rn_goto d_M_walks_121 (t := 56) (by decide)).trans ?_
    rfl
theorem e_M_walks {X : zX} {x1 : Int32} {x2 : Int32} {x3 : Int32} {h : zH} : zcf X m_M_walks [.ref 123, .int x1, .int x2, .int x3] h = (zbI (zcf X m_M_isOne [.ref 123, .int x1] ((zup h.1 123 7 0), h.2)) fun v2 h1 => (if v2 = 0 then (zbI (zcf X m_M_wrongBit [.int (-1), .int x3, .int 1] h1) fun v4 h3 => (if 0 ≤ v4 then (zbV (zcf X m_M_think [.ref 123] h3) fun h5 => zrn X 6 m_M_walks 56 [some (.ref 123), some (.int x1), some (.int x2), some (.int x3), some (.int v4), some (.int 0), some (.int 0), some (.int 0), none] [] h5) else (zbI (zcf X m_M_refuse [.ref 123, .int v4] h3) fun v7 h6 => (some (some (.int v7), h6))))) else (zbI (zcf X m_M_wrongNumber [.int x2, .int 0, .int 60] h1) fun v9 h8 => (zbI (zcf X m_M_wrongBit [.int v9, .int x3, .int 1] h8) fun v11 h10 => (if 0 ≤ v11 then (zbV (zcf X m_M_think [.ref 123] h10) fun h12 => zrn X 6 m_M_walks 56 [some (.ref 123), some (.int x1), some (.int x2), some (.int x3), some (.int v11), some (.int 0), some (.int 0), some (.int 0), none] [] h12) else (zbI (zcf X m_M_refuse [.ref 123, .int v11] h10) fun v14 h13 => (some (some (.int v14), h13)))))))) := by
  refine (zcf_run (Nat.le_of_ble_eq_true rfl)).trans ?_
  show zrn X 6 m_M_walks 0 [some (.ref 123), some (.int x1), some (.int x2), some (.int x3), none, none, none, none, none] [] h = _
  refine (rn_ld d_M_walks_0 rfl rfl rfl rfl).trans ?_
  refine (rn_push d_M_walks_1 zcs_iconst_0).trans ?_
  refine (rn_pi d_M_walks_2 f_4_61 zc_123).trans ?_
  refine (rn_ld d_M_walks_5 rfl rfl rfl rfl).trans ?_
  refine (rn_ld d_M_walks_6 rfl rfl rfl rfl).trans ?_
  refine (rn_vI d_M_walks_7 (zinv_v l_4_72 (by decide) (Nat.le_of_ble_eq_true rfl) rfl rfl zc_123 (Nat.le_of_ble_eq_true rfl)) (Nat.le_of_ble_eq_true rfl) (Or.inr rfl)).trans (zbI_congr fun v2 h1 => ?_)
  refine (rn_if_eq d_M_walks_10 (t := 23) (by decide)).trans (zif ?_ ?_)
  · refine (rn_push d_M_walks_23 zcs_iconst_m1).trans ?_
    refine (rn_ld d_M_walks_24 rfl rfl rfl rfl).trans ?_
    refine (rn_push d_M_walks_25 zcs_iconst_1).trans ?_
    refine (rn_sI d_M_walks_26 nb_4_215 (zinv_s l_4_215 (by decide) (Nat.le_of_ble_eq_true rfl) rfl rfl (Nat.le_of_ble_eq_true rfl)) (Nat.le_of_ble_eq_true rfl) (Or.inl rfl)).trans (zbI_congr fun v4 h3 => ?_)
    refine (rn_st d_M_walks_29 rfl rfl rfl (by decide) rfl (Nat.le_of_ble_eq_true rfl) (ls' := [some (.ref 123), some (.int x1), some (.int x2), some (.int x3), some (.int v4), none, none, none, none]) rfl).trans ?_
    refine (rn_ld d_M_walks_31 rfl rfl rfl rfl).trans ?_
    refine (rn_if_ge d_M_walks_33 (t := 43) (by decide)).trans (zif ?_ ?_)
    · refine (rn_push d_M_walks_43 zcs_iconst_0).trans ?_
      refine (rn_st d_M_walks_44 rfl rfl rfl (by decide) rfl (Nat.le_of_ble_eq_true rfl) (ls' := [some (.ref 123), some (.int x1), some (.int x2), some (.int x3), some (.int v4), some (.int 0), none, none, none]) rfl).trans ?_
      refine (rn_push d_M_walks_46 zcs_iconst_0).trans ?_
      refine (rn_st d_M_walks_47 rfl rfl rfl (by decide) rfl (Nat.le_of_ble_eq_true rfl) (ls' := [some (.ref 123), some (.int x1), some (.int x2), some (.int x3), some (.int v4), some (.int 0), some (.int 0), none, none]) rfl).trans ?_
      refine (rn_ld d_M_walks_49 rfl rfl rfl rfl).trans ?_
      refine (rn_vV d_M_walks_50 (zinv_v l_4_168 (by decide) (Nat.le_of_ble_eq_true rfl) rfl rfl zc_123 (Nat.le_of_ble_eq_true rfl)) (Nat.le_of_ble_eq_true rfl) rfl).trans (zbV_congr fun h5 => ?_)
      refine (rn_push d_M_walks_53 zcs_iconst_0).trans ?_
      refine (rn_st d_M_walks_54 rfl rfl rfl (by decide) rfl (Nat.le_of_ble_eq_true rfl) (ls' := [some (.ref 123), some (.int x1), some (.int x2), some (.int x3), some (.int v4), some (.int 0), some (.int 0), some (.int 0), none]) rfl).trans ?_
      rfl
    · refine (rn_ld d_M_walks_36 rfl rfl rfl rfl).trans ?_
      refine (rn_ld d_M_walks_37 rfl rfl rfl rfl).trans ?_
      refine (rn_vI d_M_walks_39 (zinv_v l_4_123 (by decide) (Nat.le_of_ble_eq_true rfl) rfl rfl zc_123 (Nat.le_of_ble_eq_true rfl)) (Nat.le_of_ble_eq_true rfl) (Or.inl rfl)).trans (zbI_congr fun v7 h6 => ?_)
      exact rn_ri d_M_walks_42 rfl
  · refine (rn_ld d_M_walks_13 rfl rfl rfl rfl).trans ?_
    refine (rn_push d_M_walks_14 zcs_iconst_0).trans ?_
    refine (rn_push d_M_walks_15 zcs_bipush_60).trans ?_
    refine (rn_sI d_M_walks_17 nb_4_201 (zinv_s l_4_201 (by decide) (Nat.le_of_ble_eq_true rfl) rfl rfl (Nat.le_of_ble_eq_true rfl)) (Nat.le_of_ble_eq_true rfl) (Or.inl rfl)).trans (zbI_congr fun v9 h8 => ?_)
    refine (rn_goto d_M_walks_20 (t := 24) (by decide)).trans ?_
    refine (rn_ld d_M_walks_24 rfl rfl rfl rfl).trans ?_
    refine (rn_push d_M_walks_25 zcs_iconst_1).trans ?_
    refine (rn_sI d_M_walks_26 nb_4_215 (zinv_s l_4_215 (by decide) (Nat.le_of_ble_eq_true rfl) rfl rfl (Nat.le_of_ble_eq_true rfl)) (Nat.le_of_ble_eq_true rfl) (Or.inl rfl)).trans (zbI_congr fun v11 h10 => ?_)
    refine (rn_st d_M_walks_29 rfl rfl rfl (by decide) rfl (Nat.le_of_ble_eq_true rfl) (ls' := [some (.ref 123), some (.int x1), some (.int x2), some (.int x3), some (.int v11), none, none, none, none]) rfl).trans ?_
    refine (rn_ld d_M_walks_31 rfl rfl rfl rfl).trans ?_
    refine (rn_if_ge d_M_walks_33 (t := 43) (by decide)).trans (zif ?_ ?_)
    · refine (rn_push d_M_walks_43 zcs_iconst_0).trans ?_
      refine (rn_st d_M_walks_44 rfl rfl rfl (by decide) rfl (Nat.le_of_ble_eq_true rfl) (ls' := [some (.ref 123), some (.int x1), some (.int x2), some (.int x3), some (.int v11), some (.int 0), none, none, none]) rfl).trans ?_
      refine (rn_push d_M_walks_46 zcs_iconst_0).trans ?_
      refine (rn_st d_M_walks_47 rfl rfl rfl (by decide) rfl (Nat.le_of_ble_eq_true rfl) (ls' := [some (.ref 123), some (.int x1), some (.int x2), some (.int x3), some (.int v11), some (.int 0), some (.int 0), none, none]) rfl).trans ?_
      refine (rn_ld d_M_walks_49 rfl rfl rfl rfl).trans ?_
      refine (rn_vV d_M_walks_50 (zinv_v l_4_168 (by decide) (Nat.le_of_ble_eq_true rfl) rfl rfl zc_123 (Nat.le_of_ble_eq_true rfl)) (Nat.le_of_ble_eq_true rfl) rfl).trans (zbV_congr fun h12 => ?_)
      refine (rn_push d_M_walks_53 zcs_iconst_0).trans ?_
      refine (rn_st d_M_walks_54 rfl rfl rfl (by decide) rfl (Nat.le_of_ble_eq_true rfl) (ls' := [some (.ref 123), some (.int x1), some (.int x2), some (.int x3), some (.int v11), some (.int 0), some (.int 0), some (.int 0), none]) rfl).trans ?_
      rfl
    · refine (rn_ld d_M_walks_36 rfl rfl rfl rfl).trans ?_
      refine (rn_ld d_M_walks_37 rfl rfl rfl rfl).trans ?_
      refine (rn_vI d_M_walks_39 (zinv_v l_4_123 (by decide) (Nat.le_of_ble_eq_true rfl) rfl rfl zc_123 (Nat.le_of_ble_eq_true rfl)) (Nat.le_of_ble_eq_true rfl) (Or.inl rfl)).trans (zbI_congr fun v14 h13 => ?_)
      exact rn_ri d_M_walks_42 rfl
theorem b_M_meets_30 {X : zX} {x1 : Int32} {x2 : Int32} {x3 : Int32} {x4 : Int32} {h : zH} : zrn X 6 m_M_meets 30 [some (.ref 123), some (.int x1), some (.int x2), some (.int x3), some (.int x4)] [] h = (if 60 < x4 then (zbV (zcf X m_M_again [.ref 123] h) fun h1 => (some (some (.int x3), h1))) else (if 0 ≤ x3 then (zbV (zcf X m_M_again [.ref 123] h) fun h2 => (some (some (.int x3), h2))) else (if zin x1 7 = true then (if zin x2 7 = true then (zbI (zcf X m_M_apart [.int (h.1 126 (Int32.toNatClampNeg x1)), .int (h.1 126 (Int32.toNatClampNeg x2))] h) fun v4 h3 => (zbV (zcf X m_M_nightBy [.ref 123, .int (-9)] h3) fun h6 => zrn X 6 m_M_meets 30 [some (.ref 123), some (.int x1), some (.int x2), some (.int (if v4 = 1 then x4 else (-9))), some (.int (x4 + 1))] [] h6)) else none) else none))) := by
  refine (rn_ld d_M_meets_30 rfl rfl rfl rfl).trans ?_
  refine (rn_push d_M_meets_32 zcs_bipush_60).trans ?_
  refine (rn_ic_gt d_M_meets_34 (t := 80) (by decide)).trans (zif ?_ ?_)
  · refine (rn_ld d_M_meets_80 rfl rfl rfl rfl).trans ?_
    refine (rn_vV d_M_meets_81 (zinv_v l_4_174 (by decide) (Nat.le_of_ble_eq_true rfl) rfl rfl zc_123 (Nat.le_of_ble_eq_true rfl)) (Nat.le_of_ble_eq_true rfl) rfl).trans (zbV_congr fun h1 => ?_)
    refine (rn_ld d_M_meets_84 rfl rfl rfl rfl).trans ?_
    exact rn_ri d_M_meets_85 rfl
  · refine (rn_ld d_M_meets_37 rfl rfl rfl rfl).trans ?_
    refine (rn_if_ge d_M_meets_38 (t := 80) (by decide)).trans (zif ?_ ?_)
    · refine (rn_ld d_M_meets_80 rfl rfl rfl rfl).trans ?_
      refine (rn_vV d_M_meets_81 (zinv_v l_4_174 (by decide) (Nat.le_of_ble_eq_true rfl) rfl rfl zc_123 (Nat.le_of_ble_eq_true rfl)) (Nat.le_of_ble_eq_true rfl) rfl).trans (zbV_congr fun h2 => ?_)
      refine (rn_ld d_M_meets_84 rfl rfl rfl rfl).trans ?_
      exact rn_ri d_M_meets_85 rfl
    · refine (rn_ld d_M_meets_41 rfl rfl rfl rfl).trans ?_
      refine (rn_gr d_M_meets_42 f_4_16 zc_123 zr_123_3).trans ?_
      refine (rn_ld d_M_meets_45 rfl rfl rfl rfl).trans ?_
      refine (rn_ial d_M_meets_46 (by decide) zc_126).trans (zif ?_ rfl)
      refine (rn_ld d_M_meets_47 rfl rfl rfl rfl).trans ?_
      refine (rn_gr d_M_meets_48 f_4_16 zc_123 zr_123_3).trans ?_
      refine (rn_ld d_M_meets_51 rfl rfl rfl rfl).trans ?_
      refine (rn_ial d_M_meets_52 (by decide) zc_126).trans (zif ?_ rfl)
      refine (rn_sI d_M_meets_53 nb_4_263 (zinv_s l_4_263 (by decide) (Nat.le_of_ble_eq_true rfl) rfl rfl (Nat.le_of_ble_eq_true rfl)) (Nat.le_of_ble_eq_true rfl) (Or.inl rfl)).trans (zbI_congr fun v4 h3 => ?_)
      refine (rn_push d_M_meets_56 zcs_iconst_1).trans ?_
      refine Eq.trans (b := zrn X 6 m_M_meets 67 [some (.ref 123), some (.int x1), some (.int x2), some (.int x3), some (.int x4)] [.int (if v4 = 1 then x4 else (-9))] h3) ?_ ?_
      · refine (rn_ic_ne d_M_meets_57 (t := 65) (by decide)).trans ?_
        by_cases q5 : v4 = 1
        · simp only [if_pos q5]
          refine (rn_ld d_M_meets_60 rfl rfl rfl rfl).trans ?_
          refine (rn_goto d_M_meets_62 (t := 67) (by decide)).trans ?_
          all_goals rfl
        · simp only [if_neg q5]
          refine (rn_push d_M_meets_65 zcs_bipush_m9).trans ?_
          all_goals rfl
      refine (rn_st d_M_meets_67 rfl rfl rfl (by decide) rfl (Nat.le_of_ble_eq_true rfl) (ls' := [some (.ref 123), some (.int x1), some (.int x2), some (.int (if v4 = 1 then x4 else (-9))), some (.int x4)]) rfl).trans ?_
      refine (rn_ld d_M_meets_68 rfl rfl rfl rfl).trans ?_
      refine (rn_push d_M_meets_69 zcs_bipush_m9).trans ?_
      refine (rn_vV d_M_meets_71 (zinv_v l_4_119 (by decide) (Nat.le_of_ble_eq_true rfl) rfl rfl zc_123 (Nat.le_of_ble_eq_true rfl)) (Nat.le_of_ble_eq_true rfl) rfl).trans (zbV_congr fun h6 => ?_)
      refine (rn_inc d_M_meets_74 rfl (c := 1) (by decide) (ls' := [some (.ref 123), some (.int x1), some (.int x2), some (.int (if v4 = 1 then x4 else (-9))), some (.int (x4 + 1))]) rfl).trans ?_
      refine (rn_goto d_M_meets_77 (t := 30) (by decide)).trans ?_
      rfl
theorem e_M_meets {X : zX} {x1 : Int32} {x2 : Int32} {h : zH} : zcf X m_M_meets [.ref 123, .int x1, .int x2] h = (zbI (zcf X m_M_areTwo [.ref 123, .int x1, .int x2] ((zup h.1 123 7 0), h.2)) fun v2 h1 => (if v2 = 0 then (zbI (zcf X m_M_refuse [.ref 123, .int (-1)] h1) fun v4 h3 => (some (some (.int v4), h3))) else (zbV (zcf X m_M_think [.ref 123] h1) fun h5 => zrn X 6 m_M_meets 30 [some (.ref 123), some (.int x1), some (.int x2), some (.int (-9)), some (.int 0)] [] h5))) := by
  refine (zcf_run (Nat.le_of_ble_eq_true rfl)).trans ?_
  show zrn X 6 m_M_meets 0 [some (.ref 123), some (.int x1), some (.int x2), none, none] [] h = _
  refine (rn_ld d_M_meets_0 rfl rfl rfl rfl).trans ?_
  refine (rn_push d_M_meets_1 zcs_iconst_0).trans ?_
  refine (rn_pi d_M_meets_2 f_4_61 zc_123).trans ?_
  refine (rn_ld d_M_meets_5 rfl rfl rfl rfl).trans ?_
  refine (rn_ld d_M_meets_6 rfl rfl rfl rfl).trans ?_
  refine (rn_ld d_M_meets_7 rfl rfl rfl rfl).trans ?_
  refine (rn_vI d_M_meets_8 (zinv_v l_4_247 (by decide) (Nat.le_of_ble_eq_true rfl) rfl rfl zc_123 (Nat.le_of_ble_eq_true rfl)) (Nat.le_of_ble_eq_true rfl) (Or.inr rfl)).trans (zbI_congr fun v2 h1 => ?_)
  refine (rn_if_ne d_M_meets_11 (t := 20) (by decide)).trans (zif ?_ ?_)
  · refine (rn_ld d_M_meets_14 rfl rfl rfl rfl).trans ?_
    refine (rn_push d_M_meets_15 zcs_iconst_m1).trans ?_
    refine (rn_vI d_M_meets_16 (zinv_v l_4_123 (by decide) (Nat.le_of_ble_eq_true rfl) rfl rfl zc_123 (Nat.le_of_ble_eq_true rfl)) (Nat.le_of_ble_eq_true rfl) (Or.inl rfl)).trans (zbI_congr fun v4 h3 => ?_)
    exact rn_ri d_M_meets_19 rfl
  · refine (rn_push d_M_meets_20 zcs_bipush_m9).trans ?_
    refine (rn_st d_M_meets_22 rfl rfl rfl (by decide) rfl (Nat.le_of_ble_eq_true rfl) (ls' := [some (.ref 123), some (.int x1), some (.int x2), some (.int (-9)), none]) rfl).trans ?_
    refine (rn_ld d_M_meets_23 rfl rfl rfl rfl).trans ?_
    refine (rn_vV d_M_meets_24 (zinv_v l_4_168 (by decide) (Nat.le_of_ble_eq_true rfl) rfl rfl zc_123 (Nat.le_of_ble_eq_true rfl)) (Nat.le_of_ble_eq_true rfl) rfl).trans (zbV_congr fun h5 => ?_)
    refine (rn_push d_M_meets_27 zcs_iconst_0).trans ?_
    refine (rn_st d_M_meets_28 rfl rfl rfl (by decide) rfl (Nat.le_of_ble_eq_true rfl) (ls' := [some (.ref 123), some (.int x1), some (.int x2), some (.int (-9)), some (.int 0)]) rfl).trans ?_
    rfl
theorem b_M_leave_41 {X : zX} {x1 : Int32} {x2 : Int32} {x3 : Int32} {x4 : Int32} {x5 : Int32} {h : zH} : zrn X 4 m_M_leave 41 [some (.ref 123), some (.int x1), some (.int x2), some (.int x3), some (.int x4), some (.int x5)] [] h = (if (h.1 123 0) ≤ x5 then (if zin x2 7 = true then (some (some (.int x4), ((zup h.1 126 (Int32.toNatClampNeg x2) x3), h.2))) else none) else (if x5 = x2 then zrn X 4 m_M_leave 41 [some (.ref 123), some (.int x1), some (.int x2), some (.int x3), some (.int (x4 ||| 0)), some (.int (x5 + 1))] [] h else (zbI (zcf X m_M_aheadOf [.ref 123, .int x5] h) fun v2 h1 => zrn X 4 m_M_leave 41 [some (.ref 123), some (.int x1), some (.int x2), some (.int x3), some (.int (x4 ||| (if v2 = x1 then ((1 : Int32) <<< (x5 &&& 31)) else 0))), some (.int (x5 + 1))] [] h1))) := by
  refine (rn_ld d_M_leave_41 rfl rfl rfl rfl).trans ?_
  refine (rn_ld d_M_leave_43 rfl rfl rfl rfl).trans ?_
  refine (rn_gi d_M_leave_44 f_4_65 zc_123).trans ?_
  refine (rn_ic_ge d_M_leave_47 (t := 85) (by decide)).trans (zif ?_ ?_)
  · refine (rn_ld d_M_leave_85 rfl rfl rfl rfl).trans ?_
    refine (rn_gr d_M_leave_86 f_4_16 zc_123 zr_123_3).trans ?_
    refine (rn_ld d_M_leave_89 rfl rfl rfl rfl).trans ?_
    refine (rn_ld d_M_leave_90 rfl rfl rfl rfl).trans ?_
    refine (rn_ias d_M_leave_91 zc_126).trans (zif ?_ rfl)
    refine (rn_ld d_M_leave_92 rfl rfl rfl rfl).trans ?_
    exact rn_ri d_M_leave_94 rfl
  · refine (rn_ld d_M_leave_50 rfl rfl rfl rfl).trans ?_
    refine (rn_ld d_M_leave_52 rfl rfl rfl rfl).trans ?_
    refine (rn_ld d_M_leave_54 rfl rfl rfl rfl).trans ?_
    refine (rn_ic_eq d_M_leave_55 (t := 75) (by decide)).trans (zif ?_ ?_)
    · refine (rn_push d_M_leave_75 zcs_iconst_0).trans ?_
      refine (rn_a2 d_M_leave_76 rfl).trans ?_
      refine (rn_st d_M_leave_77 rfl rfl rfl (by decide) rfl (Nat.le_of_ble_eq_true rfl) (ls' := [some (.ref 123), some (.int x1), some (.int x2), some (.int x3), some (.int (x4 ||| 0)), some (.int x5)]) rfl).trans ?_
      refine (rn_inc d_M_leave_79 rfl (c := 1) (by decide) (ls' := [some (.ref 123), some (.int x1), some (.int x2), some (.int x3), some (.int (x4 ||| 0)), some (.int (x5 + 1))]) rfl).trans ?_
      refine (rn_goto d_M_leave_82 (t := 41) (by decide)).trans ?_
      rfl
    · refine (rn_ld d_M_leave_58 rfl rfl rfl rfl).trans ?_
      refine (rn_ld d_M_leave_59 rfl rfl rfl rfl).trans ?_
      refine (rn_vI d_M_leave_61 (zinv_v l_4_97 (by decide) (Nat.le_of_ble_eq_true rfl) rfl rfl zc_123 (Nat.le_of_ble_eq_true rfl)) (Nat.le_of_ble_eq_true rfl) (Or.inl rfl)).trans (zbI_congr fun v2 h1 => ?_)
      refine (rn_ld d_M_leave_64 rfl rfl rfl rfl).trans ?_
      refine Eq.trans (b := zrn X 4 m_M_leave 76 [some (.ref 123), some (.int x1), some (.int x2), some (.int x3), some (.int x4), some (.int x5)] [.int (if v2 = x1 then ((1 : Int32) <<< (x5 &&& 31)) else 0), .int x4] h1) ?_ ?_
      · refine (rn_ic_ne d_M_leave_65 (t := 75) (by decide)).trans ?_
        by_cases q3 : v2 = x1
        · simp only [if_pos q3]
          refine (rn_push d_M_leave_68 zcs_iconst_1).trans ?_
          refine (rn_ld d_M_leave_69 rfl rfl rfl rfl).trans ?_
          refine (rn_a2 d_M_leave_71 rfl).trans ?_
          refine (rn_goto d_M_leave_72 (t := 76) (by decide)).trans ?_
          all_goals rfl
        · simp only [if_neg q3]
          refine (rn_push d_M_leave_75 zcs_iconst_0).trans ?_
          all_goals rfl
      refine (rn_a2 d_M_leave_76 rfl).trans ?_
      refine (rn_st d_M_leave_77 rfl rfl rfl (by decide) rfl (Nat.le_of_ble_eq_true rfl) (ls' := [some (.ref 123), some (.int x1), some (.int x2), some (.int x3), some (.int (x4 ||| (if v2 = x1 then ((1 : Int32) <<< (x5 &&& 31)) else 0))), some (.int x5)]) rfl).trans ?_
      refine (rn_inc d_M_leave_79 rfl (c := 1) (by decide) (ls' := [some (.ref 123), some (.int x1), some (.int x2), some (.int x3), some (.int (x4 ||| (if v2 = x1 then ((1 : Int32) <<< (x5 &&& 31)) else 0))), some (.int (x5 + 1))]) rfl).trans ?_
      refine (rn_goto d_M_leave_82 (t := 41) (by decide)).trans ?_
      rfl
theorem e_M_leave {X : zX} {x1 : Int32} {x2 : Int32} {h : zH} : zcf X m_M_leave [.ref 123, .int x1, .int x2] h = (zbI (zcf X m_M_areTwo [.ref 123, .int x1, .int x2] ((zup h.1 123 7 0), h.2)) fun v2 h1 => (if v2 = 0 then (zbI (zcf X m_M_refuse [.ref 123, .int (-1)] h1) fun v4 h3 => (some (some (.int v4), h3))) else (if zin x2 7 = true then (if zin x2 7 = true then zrn X 4 m_M_leave 41 [some (.ref 123), some (.int x1), some (.int x2), some (.int (h1.1 126 (Int32.toNatClampNeg x2))), some (.int 0), some (.int 0)] [] ((zup h1.1 126 (Int32.toNatClampNeg x2) (-99)), h1.2) else none) else none))) := by
  refine (zcf_run (Nat.le_of_ble_eq_true rfl)).trans ?_
  show zrn X 4 m_M_leave 0 [some (.ref 123), some (.int x1), some (.int x2), none, none, none] [] h = _
  refine (rn_ld d_M_leave_0 rfl rfl rfl rfl).trans ?_
  refine (rn_push d_M_leave_1 zcs_iconst_0).trans ?_
  refine (rn_pi d_M_leave_2 f_4_61 zc_123).trans ?_
  refine (rn_ld d_M_leave_5 rfl rfl rfl rfl).trans ?_
  refine (rn_ld d_M_leave_6 rfl rfl rfl rfl).trans ?_
  refine (rn_ld d_M_leave_7 rfl rfl rfl rfl).trans ?_
  refine (rn_vI d_M_leave_8 (zinv_v l_4_247 (by decide) (Nat.le_of_ble_eq_true rfl) rfl rfl zc_123 (Nat.le_of_ble_eq_true rfl)) (Nat.le_of_ble_eq_true rfl) (Or.inr rfl)).trans (zbI_congr fun v2 h1 => ?_)
  refine (rn_if_ne d_M_leave_11 (t := 20) (by decide)).trans (zif ?_ ?_)
  · refine (rn_ld d_M_leave_14 rfl rfl rfl rfl).trans ?_
    refine (rn_push d_M_leave_15 zcs_iconst_m1).trans ?_
    refine (rn_vI d_M_leave_16 (zinv_v l_4_123 (by decide) (Nat.le_of_ble_eq_true rfl) rfl rfl zc_123 (Nat.le_of_ble_eq_true rfl)) (Nat.le_of_ble_eq_true rfl) (Or.inl rfl)).trans (zbI_congr fun v4 h3 => ?_)
    exact rn_ri d_M_leave_19 rfl
  · refine (rn_ld d_M_leave_20 rfl rfl rfl rfl).trans ?_
    refine (rn_gr d_M_leave_21 f_4_16 zc_123 zr_123_3).trans ?_
    refine (rn_ld d_M_leave_24 rfl rfl rfl rfl).trans ?_
    refine (rn_ial d_M_leave_25 (by decide) zc_126).trans (zif ?_ rfl)
    refine (rn_st d_M_leave_26 rfl rfl rfl (by decide) rfl (Nat.le_of_ble_eq_true rfl) (ls' := [some (.ref 123), some (.int x1), some (.int x2), some (.int (h1.1 126 (Int32.toNatClampNeg x2))), none, none]) rfl).trans ?_
    refine (rn_ld d_M_leave_27 rfl rfl rfl rfl).trans ?_
    refine (rn_gr d_M_leave_28 f_4_16 zc_123 zr_123_3).trans ?_
    refine (rn_ld d_M_leave_31 rfl rfl rfl rfl).trans ?_
    refine (rn_push d_M_leave_32 zcs_bipush_m99).trans ?_
    refine (rn_ias d_M_leave_34 zc_126).trans (zif ?_ rfl)
    refine (rn_push d_M_leave_35 zcs_iconst_0).trans ?_
    refine (rn_st d_M_leave_36 rfl rfl rfl (by decide) rfl (Nat.le_of_ble_eq_true rfl) (ls' := [some (.ref 123), some (.int x1), some (.int x2), some (.int (h1.1 126 (Int32.toNatClampNeg x2))), some (.int 0), none]) rfl).trans ?_
    refine (rn_push d_M_leave_38 zcs_iconst_0).trans ?_
    refine (rn_st d_M_leave_39 rfl rfl rfl (by decide) rfl (Nat.le_of_ble_eq_true rfl) (ls' := [some (.ref 123), some (.int x1), some (.int x2), some (.int (h1.1 126 (Int32.toNatClampNeg x2))), some (.int 0), some (.int 0)]) rfl).trans ?_
    rfl
theorem b_M_most_52 {X : zX} {x1 : Int32} {x2 : Int32} {x3 : Int32} {x4 : Int32} {x5 : Int32} {x6 : Int32} {x7 : Int32} {g8 : Option Value} {h : zH} : zrn X 5 m_M_most 52 [some (.ref 123), some (.int x1), some (.int x2), some (.int x3), some (.int x4), some (.int x5), some (.int x6), some (.int x7), g8] [] h = (if 36 ≤ x7 then (if zin x1 7 = true then (if x2 = 0 then (some (some (.int x5), ((zup h.1 126 (Int32.toNatClampNeg x1) x4), h.2))) else (some (some (.int x6), ((zup h.1 126 (Int32.toNatClampNeg x1) x4), h.2)))) else none) else (if zin x1 7 = true then (zbI (zcf X m_M_oneIn [.ref 123, .int x7] ((zup h.1 126 (Int32.toNatClampNeg x1) x4), h.2)) fun v2 h1 => (if 0 ≤ v2 then zrn X 5 m_M_most 52 [some (.ref 123), some (.int x1), some (.int x2), some (.int x3), some (.int x4), some (.int x5), some (.int x6), some (.int (x7 + 1)), g8] [] h1 else (if zin x1 7 = true then (zbI (zcf X m_M_watchersOf [.ref 123, .int x1] ((zup h1.1 126 (Int32.toNatClampNeg x1) x7), h1.2)) fun v4 h3 => (zbI (zcf X m_M_onesOf [.int v4] h3) fun v6 h5 => zrn X 5 m_M_most 52 [some (.ref 123), some (.int x1), some (.int x2), some (.int x3), some (.int x4), some (.int (if v6 ≤ x6 then x5 else x7)), some (.int (if v6 ≤ x6 then x6 else v6)), some (.int (x7 + 1)), some (.int v6)] [] h5)) else none))) else none)) := by
  refine (rn_ld d_M_most_52 rfl rfl rfl rfl).trans ?_
  refine (rn_push d_M_most_54 zcs_bipush_36).trans ?_
  refine (rn_ic_ge d_M_most_56 (t := 132) (by decide)).trans (zif ?_ ?_)
  · refine (rn_ld d_M_most_132 rfl rfl rfl rfl).trans ?_
    refine (rn_gr d_M_most_133 f_4_16 zc_123 zr_123_3).trans ?_
    refine (rn_ld d_M_most_136 rfl rfl rfl rfl).trans ?_
    refine (rn_ld d_M_most_137 rfl rfl rfl rfl).trans ?_
    refine (rn_ias d_M_most_139 zc_126).trans (zif ?_ rfl)
    refine (rn_ld d_M_most_140 rfl rfl rfl rfl).trans ?_
    refine (rn_if_ne d_M_most_141 (t := 149) (by decide)).trans (zif ?_ ?_)
    · refine (rn_ld d_M_most_144 rfl rfl rfl rfl).trans ?_
      refine (rn_goto d_M_most_146 (t := 151) (by decide)).trans ?_
      exact rn_ri d_M_most_151 rfl
    · refine (rn_ld d_M_most_149 rfl rfl rfl rfl).trans ?_
      exact rn_ri d_M_most_151 rfl
  · refine (rn_ld d_M_most_59 rfl rfl rfl rfl).trans ?_
    refine (rn_gr d_M_most_60 f_4_16 zc_123 zr_123_3).trans ?_
    refine (rn_ld d_M_most_63 rfl rfl rfl rfl).trans ?_
    refine (rn_ld d_M_most_64 rfl rfl rfl rfl).trans ?_
    refine (rn_ias d_M_most_66 zc_126).trans (zif ?_ rfl)
    refine (rn_ld d_M_most_67 rfl rfl rfl rfl).trans ?_
    refine (rn_ld d_M_most_68 rfl rfl rfl rfl).trans ?_
    refine (rn_vI d_M_most_70 (zinv_v l_4_84 (by decide) (Nat.le_of_ble_eq_true rfl) rfl rfl zc_123 (Nat.le_of_ble_eq_true rfl)) (Nat.le_of_ble_eq_true rfl) (Or.inl rfl)).trans (zbI_congr fun v2 h1 => ?_)
    refine (rn_if_ge d_M_most_73 (t := 126) (by decide)).trans (zif ?_ ?_)
    · refine (rn_inc d_M_most_126 rfl (c := 1) (by decide) (ls' := [some (.ref 123), some (.int x1), some (.int x2), some (.int x3), some (.int x4), some (.int x5), some (.int x6), some (.int (x7 + 1)), g8]) rfl).trans ?_
      refine (rn_goto d_M_most_129 (t := 52) (by decide)).trans ?_
      rfl
    · refine (rn_ld d_M_most_76 rfl rfl rfl rfl).trans ?_
      refine (rn_gr d_M_most_77 f_4_16 zc_123 zr_123_3).trans ?_
      refine (rn_ld d_M_most_80 rfl rfl rfl rfl).trans ?_
      refine (rn_ld d_M_most_81 rfl rfl rfl rfl).trans ?_
      refine (rn_ias d_M_most_83 zc_126).trans (zif ?_ rfl)
      refine (rn_ld d_M_most_84 rfl rfl rfl rfl).trans ?_
      refine (rn_ld d_M_most_85 rfl rfl rfl rfl).trans ?_
      refine (rn_vI d_M_most_86 (zinv_v l_4_218 (by decide) (Nat.le_of_ble_eq_true rfl) rfl rfl zc_123 (Nat.le_of_ble_eq_true rfl)) (Nat.le_of_ble_eq_true rfl) (Or.inl rfl)).trans (zbI_congr fun v4 h3 => ?_)
      refine (rn_sI d_M_most_89 nb_4_231 (zinv_s l_4_231 (by decide) (Nat.le_of_ble_eq_true rfl) rfl rfl (Nat.le_of_ble_eq_true rfl)) (Nat.le_of_ble_eq_true rfl) (Or.inl rfl)).trans (zbI_congr fun v6 h5 => ?_)
      refine (rn_st d_M_most_92 rfl rfl rfl (by decide) rfl (Nat.le_of_ble_eq_true rfl) (ls' := [some (.ref 123), some (.int x1), some (.int x2), some (.int x3), some (.int x4), some (.int x5), some (.int x6), some (.int x7), some (.int v6)]) rfl).trans ?_
      refine (rn_ld d_M_most_94 rfl rfl rfl rfl).trans ?_
      refine (rn_ld d_M_most_96 rfl rfl rfl rfl).trans ?_
      refine Eq.trans (b := zrn X 5 m_M_most 108 [some (.ref 123), some (.int x1), some (.int x2), some (.int x3), some (.int x4), some (.int x5), some (.int x6), some (.int x7), some (.int v6)] [.int (if v6 ≤ x6 then x5 else x7)] h5) ?_ ?_
      · refine (rn_ic_le d_M_most_98 (t := 106) (by decide)).trans ?_
        by_cases q7 : v6 ≤ x6
        · simp only [if_pos q7]
          refine (rn_ld d_M_most_106 rfl rfl rfl rfl).trans ?_
          all_goals rfl
        · simp only [if_neg q7]
          refine (rn_ld d_M_most_101 rfl rfl rfl rfl).trans ?_
          refine (rn_goto d_M_most_103 (t := 108) (by decide)).trans ?_
          all_goals rfl
      refine (rn_st d_M_most_108 rfl rfl rfl (by decide) rfl (Nat.le_of_ble_eq_true rfl) (ls' := [some (.ref 123), some (.int x1), some (.int x2), some (.int x3), some (.int x4), some (.int (if v6 ≤ x6 then x5 else x7)), some (.int x6), some (.int x7), some (.int v6)]) rfl).trans ?_
      refine (rn_ld d_M_most_110 rfl rfl rfl rfl).trans ?_
      refine (rn_ld d_M_most_112 rfl rfl rfl rfl).trans ?_
      refine Eq.trans (b := zrn X 5 m_M_most 124 [some (.ref 123), some (.int x1), some (.int x2), some (.int x3), some (.int x4), some (.int (if v6 ≤ x6 then x5 else x7)), some (.int x6), some (.int x7), some (.int v6)] [.int (if v6 ≤ x6 then x6 else v6)] h5) ?_ ?_
      · refine (rn_ic_le d_M_most_114 (t := 122) (by decide)).trans ?_
        by_cases q8 : v6 ≤ x6
        · simp only [if_pos q8]
          refine (rn_ld d_M_most_122 rfl rfl rfl rfl).trans ?_
          all_goals rfl
        · simp only [if_neg q8]
          refine (rn_ld d_M_most_117 rfl rfl rfl rfl).trans ?_
          refine (rn_goto d_M_most_119 (t := 124) (by decide)).trans ?_
          all_goals rfl
      refine (rn_st d_M_most_124 rfl rfl rfl (by decide) rfl (Nat.le_of_ble_eq_true rfl) (ls' := [some (.ref 123), some (.int x1), some (.int x2), some (.int x3), some (.int x4), some (.int (if v6 ≤ x6 then x5 else x7)), some (.int (if v6 ≤ x6 then x6 else v6)), some (.int x7), some (.int v6)]) rfl).trans ?_
      refine (rn_inc d_M_most_126 rfl (c := 1) (by decide) (ls' := [some (.ref 123), some (.int x1), some (.int x2), some (.int x3), some (.int x4), some (.int (if v6 ≤ x6 then x5 else x7)), some (.int (if v6 ≤ x6 then x6 else v6)), some (.int (x7 + 1)), some (.int v6)]) rfl).trans ?_
      refine (rn_goto d_M_most_129 (t := 52) (by decide)).trans ?_
      rfl
theorem e_M_most {X : zX} {x1 : Int32} {x2 : Int32} {h : zH} : zcf X m_M_most [.ref 123, .int x1, .int x2] h = (zbI (zcf X m_M_isOne [.ref 123, .int x1] ((zup h.1 123 7 0), h.2)) fun v2 h1 => (zbI (zcf X m_M_wrongBit [.int (if v2 = 0 then (-1 : Int32) else 0), .int x2, .int 1] h1) fun v5 h4 => (if 0 ≤ v5 then (if zin x1 7 = true then zrn X 5 m_M_most 52 [some (.ref 123), some (.int x1), some (.int x2), some (.int v5), some (.int (h4.1 126 (Int32.toNatClampNeg x1))), some (.int (-9)), some (.int (-1)), some (.int 0), none] [] h4 else none) else (zbI (zcf X m_M_refuse [.ref 123, .int v5] h4) fun v7 h6 => (some (some (.int v7), h6)))))) := by
  refine (zcf_run (Nat.le_of_ble_eq_true rfl)).trans ?_
  show zrn X 5 m_M_most 0 [some (.ref 123), some (.int x1), some (.int x2), none, none, none, none, none, none] [] h = _
  refine (rn_ld d_M_most_0 rfl rfl rfl rfl).trans ?_
  refine (rn_push d_M_most_1 zcs_iconst_0).trans ?_
  refine (rn_pi d_M_most_2 f_4_61 zc_123).trans ?_
  refine (rn_ld d_M_most_5 rfl rfl rfl rfl).trans ?_
  refine (rn_ld d_M_most_6 rfl rfl rfl rfl).trans ?_
  refine (rn_vI d_M_most_7 (zinv_v l_4_72 (by decide) (Nat.le_of_ble_eq_true rfl) rfl rfl zc_123 (Nat.le_of_ble_eq_true rfl)) (Nat.le_of_ble_eq_true rfl) (Or.inr rfl)).trans (zbI_congr fun v2 h1 => ?_)
  refine Eq.trans (b := zrn X 5 m_M_most 18 [some (.ref 123), some (.int x1), some (.int x2), none, none, none, none, none, none] [.int (if v2 = 0 then (-1 : Int32) else 0)] h1) ?_ ?_
  · refine (rn_if_eq d_M_most_10 (t := 17) (by decide)).trans ?_
    by_cases q3 : v2 = 0
    · simp only [if_pos q3]
      refine (rn_push d_M_most_17 zcs_iconst_m1).trans ?_
      all_goals rfl
    · simp only [if_neg q3]
      refine (rn_push d_M_most_13 zcs_iconst_0).trans ?_
      refine (rn_goto d_M_most_14 (t := 18) (by decide)).trans ?_
      all_goals rfl
  refine (rn_ld d_M_most_18 rfl rfl rfl rfl).trans ?_
  refine (rn_push d_M_most_19 zcs_iconst_1).trans ?_
  refine (rn_sI d_M_most_20 nb_4_215 (zinv_s l_4_215 (by decide) (Nat.le_of_ble_eq_true rfl) rfl rfl (Nat.le_of_ble_eq_true rfl)) (Nat.le_of_ble_eq_true rfl) (Or.inl rfl)).trans (zbI_congr fun v5 h4 => ?_)
  refine (rn_st d_M_most_23 rfl rfl rfl (by decide) rfl (Nat.le_of_ble_eq_true rfl) (ls' := [some (.ref 123), some (.int x1), some (.int x2), some (.int v5), none, none, none, none, none]) rfl).trans ?_
  refine (rn_ld d_M_most_24 rfl rfl rfl rfl).trans ?_
  refine (rn_if_ge d_M_most_25 (t := 34) (by decide)).trans (zif ?_ ?_)
  · refine (rn_ld d_M_most_34 rfl rfl rfl rfl).trans ?_
    refine (rn_gr d_M_most_35 f_4_16 zc_123 zr_123_3).trans ?_
    refine (rn_ld d_M_most_38 rfl rfl rfl rfl).trans ?_
    refine (rn_ial d_M_most_39 (by decide) zc_126).trans (zif ?_ rfl)
    refine (rn_st d_M_most_40 rfl rfl rfl (by decide) rfl (Nat.le_of_ble_eq_true rfl) (ls' := [some (.ref 123), some (.int x1), some (.int x2), some (.int v5), some (.int (h4.1 126 (Int32.toNatClampNeg x1))), none, none, none, none]) rfl).trans ?_
    refine (rn_push d_M_most_42 zcs_bipush_m9).trans ?_
    refine (rn_st d_M_most_44 rfl rfl rfl (by decide) rfl (Nat.le_of_ble_eq_true rfl) (ls' := [some (.ref 123), some (.int x1), some (.int x2), some (.int v5), some (.int (h4.1 126 (Int32.toNatClampNeg x1))), some (.int (-9)), none, none, none]) rfl).trans ?_
    refine (rn_push d_M_most_46 zcs_iconst_m1).trans ?_
    refine (rn_st d_M_most_47 rfl rfl rfl (by decide) rfl (Nat.le_of_ble_eq_true rfl) (ls' := [some (.ref 123), some (.int x1), some (.int x2), some (.int v5), some (.int (h4.1 126 (Int32.toNatClampNeg x1))), some (.int (-9)), some (.int (-1)), none, none]) rfl).trans ?_
    refine (rn_push d_M_most_49 zcs_iconst_0).trans ?_
    refine (rn_st d_M_most_50 rfl rfl rfl (by decide) rfl (Nat.le_of_ble_eq_true rfl) (ls' := [some (.ref 123), some (.int x1), some (.int x2), some (.int v5), some (.int (h4.1 126 (Int32.toNatClampNeg x1))), some (.int (-9)), some (.int (-1)), some (.int 0), none]) rfl).trans ?_
    rfl
  · refine (rn_ld d_M_most_28 rfl rfl rfl rfl).trans ?_
    refine (rn_ld d_M_most_29 rfl rfl rfl rfl).trans ?_
    refine (rn_vI d_M_most_30 (zinv_v l_4_123 (by decide) (Nat.le_of_ble_eq_true rfl) rfl rfl zc_123 (Nat.le_of_ble_eq_true rfl)) (Nat.le_of_ble_eq_true rfl) (Or.inl rfl)).trans (zbI_congr fun v7 h6 => ?_)
    exact rn_ri d_M_most_33 rfl
theorem b_M_quiet_35 {X : zX} {x1 : Int32} {x2 : Int32} {x3 : Int32} {h : zH} : zrn X 6 m_M_quiet 35 [some (.ref 123), some (.int x1), some (.int x2), some (.int x3)] [] h = (if x1 ≤ x3 then (zbV (zcf X m_M_again [.ref 123] h) fun h1 => (if x2 = 0 then (some (some (.int 0), h1)) else (some (some (.int 1), h1)))) else (zbV (zcf X m_M_nightBy [.ref 123, .int (-9)] h) fun h2 => zrn X 6 m_M_quiet 35 [some (.ref 123), some (.int x1), some (.int (if x2 = 0 then (0 : Int32) else (if (h2.1 123 10) = 0 then (1 : Int32) else 0))), some (.int (x3 + 1))] [] h2)) := by
  refine (rn_ld d_M_quiet_35 rfl rfl rfl rfl).trans ?_
  refine (rn_ld d_M_quiet_36 rfl rfl rfl rfl).trans ?_
  refine (rn_ic_ge d_M_quiet_37 (t := 69) (by decide)).trans (zif ?_ ?_)
  · refine (rn_ld d_M_quiet_69 rfl rfl rfl rfl).trans ?_
    refine (rn_vV d_M_quiet_70 (zinv_v l_4_174 (by decide) (Nat.le_of_ble_eq_true rfl) rfl rfl zc_123 (Nat.le_of_ble_eq_true rfl)) (Nat.le_of_ble_eq_true rfl) rfl).trans (zbV_congr fun h1 => ?_)
    refine (rn_ld d_M_quiet_73 rfl rfl rfl rfl).trans ?_
    refine (rn_if_eq d_M_quiet_74 (t := 81) (by decide)).trans (zif ?_ ?_)
    · refine (rn_push d_M_quiet_81 zcs_iconst_0).trans ?_
      exact rn_ri d_M_quiet_82 rfl
    · refine (rn_push d_M_quiet_77 zcs_iconst_1).trans ?_
      refine (rn_goto d_M_quiet_78 (t := 82) (by decide)).trans ?_
      exact rn_ri d_M_quiet_82 rfl
  · refine (rn_ld d_M_quiet_40 rfl rfl rfl rfl).trans ?_
    refine (rn_push d_M_quiet_41 zcs_bipush_m9).trans ?_
    refine (rn_vV d_M_quiet_43 (zinv_v l_4_119 (by decide) (Nat.le_of_ble_eq_true rfl) rfl rfl zc_123 (Nat.le_of_ble_eq_true rfl)) (Nat.le_of_ble_eq_true rfl) rfl).trans (zbV_congr fun h2 => ?_)
    refine (rn_ld d_M_quiet_46 rfl rfl rfl rfl).trans ?_
    refine Eq.trans (b := zrn X 6 m_M_quiet 62 [some (.ref 123), some (.int x1), some (.int x2), some (.int x3)] [.int (if x2 = 0 then (0 : Int32) else (if (h2.1 123 10) = 0 then (1 : Int32) else 0))] h2) ?_ ?_
    · refine (rn_if_eq d_M_quiet_47 (t := 61) (by decide)).trans ?_
      by_cases q3 : x2 = 0
      · simp only [if_pos q3]
        refine (rn_push d_M_quiet_61 zcs_iconst_0).trans ?_
        all_goals rfl
      · simp only [if_neg q3]
        refine (rn_ld d_M_quiet_50 rfl rfl rfl rfl).trans ?_
        refine (rn_gi d_M_quiet_51 f_4_110 zc_123).trans ?_
        refine (rn_if_ne d_M_quiet_54 (t := 61) (by decide)).trans ?_
        by_cases q4 : (h2.1 123 10) = 0
        · simp only [if_pos q4]
          refine (rn_push d_M_quiet_57 zcs_iconst_1).trans ?_
          refine (rn_goto d_M_quiet_58 (t := 62) (by decide)).trans ?_
          all_goals rfl
        · simp only [if_neg q4]
          refine (rn_push d_M_quiet_61 zcs_iconst_0).trans ?_
          all_goals rfl
    refine (rn_st d_M_quiet_62 rfl rfl rfl (by decide) rfl (Nat.le_of_ble_eq_true rfl) (ls' := [some (.ref 123), some (.int x1), some (.int (if x2 = 0 then (0 : Int32) else (if (h2.1 123 10) = 0 then (1 : Int32) else 0))), some (.int x3)]) rfl).trans ?_
    refine (rn_inc d_M_quiet_63 rfl (c := 1) (by decide) (ls' := [some (.ref 123), some (.int x1), some (.int (if x2 = 0 then (0 : Int32) else (if (h2.1 123 10) = 0 then (1 : Int32) else 0))), some (.int (x3 + 1))]) rfl).trans ?_
    refine (rn_goto d_M_quiet_66 (t := 35) (by decide)).trans ?_
    rfl
theorem e_M_quiet {X : zX} {x1 : Int32} {h : zH} : zcf X m_M_quiet [.ref 123, .int x1] h = (zbI (zcf X m_M_wrongNumber [.int x1, .int 0, .int 60] ((zup h.1 123 7 0), h.2)) fun v2 h1 => (if 0 ≤ v2 then (zbV (zcf X m_M_think [.ref 123] h1) fun h3 => zrn X 6 m_M_quiet 35 [some (.ref 123), some (.int x1), some (.int 1), some (.int 0)] [] h3) else (zbI (zcf X m_M_wrongNumber [.int x1, .int 0, .int 60] h1) fun v5 h4 => (zbI (zcf X m_M_refuse [.ref 123, .int v5] h4) fun v7 h6 => (some (some (.int v7), h6)))))) := by
  refine (zcf_run (Nat.le_of_ble_eq_true rfl)).trans ?_
  show zrn X 6 m_M_quiet 0 [some (.ref 123), some (.int x1), none, none] [] h = _
  refine (rn_ld d_M_quiet_0 rfl rfl rfl rfl).trans ?_
  refine (rn_push d_M_quiet_1 zcs_iconst_0).trans ?_
  refine (rn_pi d_M_quiet_2 f_4_61 zc_123).trans ?_
  refine (rn_ld d_M_quiet_5 rfl rfl rfl rfl).trans ?_
  refine (rn_push d_M_quiet_6 zcs_iconst_0).trans ?_
  refine (rn_push d_M_quiet_7 zcs_bipush_60).trans ?_
  refine (rn_sI d_M_quiet_9 nb_4_201 (zinv_s l_4_201 (by decide) (Nat.le_of_ble_eq_true rfl) rfl rfl (Nat.le_of_ble_eq_true rfl)) (Nat.le_of_ble_eq_true rfl) (Or.inl rfl)).trans (zbI_congr fun v2 h1 => ?_)
  refine (rn_if_ge d_M_quiet_12 (t := 27) (by decide)).trans (zif ?_ ?_)
  · refine (rn_push d_M_quiet_27 zcs_iconst_1).trans ?_
    refine (rn_st d_M_quiet_28 rfl rfl rfl (by decide) rfl (Nat.le_of_ble_eq_true rfl) (ls' := [some (.ref 123), some (.int x1), some (.int 1), none]) rfl).trans ?_
    refine (rn_ld d_M_quiet_29 rfl rfl rfl rfl).trans ?_
    refine (rn_vV d_M_quiet_30 (zinv_v l_4_168 (by decide) (Nat.le_of_ble_eq_true rfl) rfl rfl zc_123 (Nat.le_of_ble_eq_true rfl)) (Nat.le_of_ble_eq_true rfl) rfl).trans (zbV_congr fun h3 => ?_)
    refine (rn_push d_M_quiet_33 zcs_iconst_0).trans ?_
    refine (rn_st d_M_quiet_34 rfl rfl rfl (by decide) rfl (Nat.le_of_ble_eq_true rfl) (ls' := [some (.ref 123), some (.int x1), some (.int 1), some (.int 0)]) rfl).trans ?_
    rfl
  · refine (rn_ld d_M_quiet_15 rfl rfl rfl rfl).trans ?_
    refine (rn_ld d_M_quiet_16 rfl rfl rfl rfl).trans ?_
    refine (rn_push d_M_quiet_17 zcs_iconst_0).trans ?_
    refine (rn_push d_M_quiet_18 zcs_bipush_60).trans ?_
    refine (rn_sI d_M_quiet_20 nb_4_201 (zinv_s l_4_201 (by decide) (Nat.le_of_ble_eq_true rfl) rfl rfl (Nat.le_of_ble_eq_true rfl)) (Nat.le_of_ble_eq_true rfl) (Or.inl rfl)).trans (zbI_congr fun v5 h4 => ?_)
    refine (rn_vI d_M_quiet_23 (zinv_v l_4_123 (by decide) (Nat.le_of_ble_eq_true rfl) rfl rfl zc_123 (Nat.le_of_ble_eq_true rfl)) (Nat.le_of_ble_eq_true rfl) (Or.inl rfl)).trans (zbI_congr fun v7 h6 => ?_)
    exact rn_ri d_M_quiet_26 rfl
theorem e_M_row {X : zX} {x1 : Int32} {h : zH} : zcf X m_M_row [.ref 123, .int x1] h = (if 0 ≤ x1 then (if 99 < x1 then (zbI (zcf X m_M_refuse [.ref 123, .int (-6)] ((zup h.1 123 7 0), h.2)) fun v2 h1 => (some (some (.int v2), h1))) else (if ((zup h.1 123 7 0) 123 32) = 12 then (zbI (zcf X m_M_refuse [.ref 123, .int (-6)] ((zup h.1 123 7 0), h.2)) fun v4 h3 => (some (some (.int v4), h3))) else (if zin ((zup h.1 123 7 0) 123 32) 12 = true then (some (some (.int ((zup (zup (zup h.1 123 7 0) 139 (Int32.toNatClampNeg ((zup h.1 123 7 0) 123 32)) x1) 123 32 (((zup (zup h.1 123 7 0) 139 (Int32.toNatClampNeg ((zup h.1 123 7 0) 123 32)) x1) 123 32) + 1)) 123 32)), ((zup (zup (zup h.1 123 7 0) 139 (Int32.toNatClampNeg ((zup h.1 123 7 0) 123 32)) x1) 123 32 (((zup (zup h.1 123 7 0) 139 (Int32.toNatClampNeg ((zup h.1 123 7 0) 123 32)) x1) 123 32) + 1)), h.2))) else none))) else (zbI (zcf X m_M_refuse [.ref 123, .int (-4)] ((zup h.1 123 7 0), h.2)) fun v6 h5 => (some (some (.int v6), h5)))) := by
  refine (zcf_run (Nat.le_of_ble_eq_true rfl)).trans ?_
  show zrn X 1 m_M_row 0 [some (.ref 123), some (.int x1)] [] h = _
  refine (rn_ld d_M_row_0 rfl rfl rfl rfl).trans ?_
  refine (rn_push d_M_row_1 zcs_iconst_0).trans ?_
  refine (rn_pi d_M_row_2 f_4_61 zc_123).trans ?_
  refine (rn_ld d_M_row_5 rfl rfl rfl rfl).trans ?_
  refine (rn_if_ge d_M_row_6 (t := 16) (by decide)).trans (zif ?_ ?_)
  · refine (rn_ld d_M_row_16 rfl rfl rfl rfl).trans ?_
    refine (rn_push d_M_row_17 zcs_bipush_99).trans ?_
    refine (rn_ic_gt d_M_row_19 (t := 31) (by decide)).trans (zif ?_ ?_)
    · refine (rn_ld d_M_row_31 rfl rfl rfl rfl).trans ?_
      refine (rn_push d_M_row_32 zcs_bipush_m6).trans ?_
      refine (rn_vI d_M_row_34 (zinv_v l_4_123 (by decide) (Nat.le_of_ble_eq_true rfl) rfl rfl zc_123 (Nat.le_of_ble_eq_true rfl)) (Nat.le_of_ble_eq_true rfl) (Or.inl rfl)).trans (zbI_congr fun v2 h1 => ?_)
      exact rn_ri d_M_row_37 rfl
    · refine (rn_ld d_M_row_22 rfl rfl rfl rfl).trans ?_
      refine (rn_gi d_M_row_23 f_4_237 zc_123).trans ?_
      refine (rn_push d_M_row_26 zcs_bipush_12).trans ?_
      refine (rn_ic_ne d_M_row_28 (t := 38) (by decide)).trans (zif ?_ ?_)
      · refine (rn_ld d_M_row_31 rfl rfl rfl rfl).trans ?_
        refine (rn_push d_M_row_32 zcs_bipush_m6).trans ?_
        refine (rn_vI d_M_row_34 (zinv_v l_4_123 (by decide) (Nat.le_of_ble_eq_true rfl) rfl rfl zc_123 (Nat.le_of_ble_eq_true rfl)) (Nat.le_of_ble_eq_true rfl) (Or.inl rfl)).trans (zbI_congr fun v4 h3 => ?_)
        exact rn_ri d_M_row_37 rfl
      · refine (rn_ld d_M_row_38 rfl rfl rfl rfl).trans ?_
        refine (rn_gr d_M_row_39 f_4_55 zc_123 zr_123_31).trans ?_
        refine (rn_ld d_M_row_42 rfl rfl rfl rfl).trans ?_
        refine (rn_gi d_M_row_43 f_4_237 zc_123).trans ?_
        refine (rn_ld d_M_row_46 rfl rfl rfl rfl).trans ?_
        refine (rn_ias d_M_row_47 zc_139).trans (zif ?_ rfl)
        refine (rn_ld d_M_row_48 rfl rfl rfl rfl).trans ?_
        refine (rn_dup d_M_row_49 rfl).trans ?_
        refine (rn_gi d_M_row_50 f_4_237 zc_123).trans ?_
        refine (rn_push d_M_row_53 zcs_iconst_1).trans ?_
        refine (rn_a2 d_M_row_54 rfl).trans ?_
        refine (rn_pi d_M_row_55 f_4_237 zc_123).trans ?_
        refine (rn_ld d_M_row_58 rfl rfl rfl rfl).trans ?_
        refine (rn_gi d_M_row_59 f_4_237 zc_123).trans ?_
        exact rn_ri d_M_row_62 rfl
  · refine (rn_ld d_M_row_9 rfl rfl rfl rfl).trans ?_
    refine (rn_push d_M_row_10 zcs_bipush_m4).trans ?_
    refine (rn_vI d_M_row_12 (zinv_v l_4_123 (by decide) (Nat.le_of_ble_eq_true rfl) rfl rfl zc_123 (Nat.le_of_ble_eq_true rfl)) (Nat.le_of_ble_eq_true rfl) (Or.inl rfl)).trans (zbI_congr fun v6 h5 => ?_)
    exact rn_ri d_M_row_15 rfl
theorem b_M_judge_17 {X : zX} {x1 : Int32} {x2 : Int32} {h : zH} : zrn X 0 m_M_judge 17 [some (.ref 123), some (.int x1), some (.int x2)] [] h = (if x1 ≤ x2 then (some (some (.int (-9)), h)) else (if (h.1 123 0) ≤ x2 then (some (some (.int x2), h)) else (if zin x2 12 = true then (if zin x2 7 = true then (if (h.1 139 (Int32.toNatClampNeg x2)) = (h.1 126 (Int32.toNatClampNeg x2)) then zrn X 0 m_M_judge 17 [some (.ref 123), some (.int x1), some (.int (x2 + 1))] [] h else (some (some (.int x2), h))) else none) else none))) := by
  refine (rn_ld d_M_judge_17 rfl rfl rfl rfl).trans ?_
  refine (rn_ld d_M_judge_18 rfl rfl rfl rfl).trans ?_
  refine (rn_ic_ge d_M_judge_19 (t := 53) (by decide)).trans (zif ?_ ?_)
  · refine (rn_push d_M_judge_53 zcs_bipush_m9).trans ?_
    exact rn_ri d_M_judge_55 rfl
  · refine (rn_ld d_M_judge_22 rfl rfl rfl rfl).trans ?_
    refine (rn_ld d_M_judge_23 rfl rfl rfl rfl).trans ?_
    refine (rn_gi d_M_judge_24 f_4_65 zc_123).trans ?_
    refine (rn_ic_ge d_M_judge_27 (t := 45) (by decide)).trans (zif ?_ ?_)
    · refine (rn_ld d_M_judge_45 rfl rfl rfl rfl).trans ?_
      exact rn_ri d_M_judge_46 rfl
    · refine (rn_ld d_M_judge_30 rfl rfl rfl rfl).trans ?_
      refine (rn_gr d_M_judge_31 f_4_55 zc_123 zr_123_31).trans ?_
      refine (rn_ld d_M_judge_34 rfl rfl rfl rfl).trans ?_
      refine (rn_ial d_M_judge_35 (by decide) zc_139).trans (zif ?_ rfl)
      refine (rn_ld d_M_judge_36 rfl rfl rfl rfl).trans ?_
      refine (rn_gr d_M_judge_37 f_4_16 zc_123 zr_123_3).trans ?_
      refine (rn_ld d_M_judge_40 rfl rfl rfl rfl).trans ?_
      refine (rn_ial d_M_judge_41 (by decide) zc_126).trans (zif ?_ rfl)
      refine (rn_ic_eq d_M_judge_42 (t := 47) (by decide)).trans (zif ?_ ?_)
      · refine (rn_inc d_M_judge_47 rfl (c := 1) (by decide) (ls' := [some (.ref 123), some (.int x1), some (.int (x2 + 1))]) rfl).trans ?_
        refine (rn_goto d_M_judge_50 (t := 17) (by decide)).trans ?_
        rfl
      · refine (rn_ld d_M_judge_45 rfl rfl rfl rfl).trans ?_
        exact rn_ri d_M_judge_46 rfl
theorem e_M_judge {X : zX} {h : zH} : zcf X m_M_judge [.ref 123] h = zrn X 0 m_M_judge 17 [some (.ref 123), some (.int ((zup h.1 123 7 0) 123 32)), some (.int 0)] [] ((zup (zup h.1 123 7 0) 123 32 0), h.2) := by
  refine (zcf_run (Nat.le_of_ble_eq_true rfl)).trans ?_
  show zrn X 0 m_M_judge 0 [some (.ref 123), none, none] [] h = _
  refine (rn_ld d_M_judge_0 rfl rfl rfl rfl).trans ?_
  refine (rn_push d_M_judge_1 zcs_iconst_0).trans ?_
  refine (rn_pi d_M_judge_2 f_4_61 zc_123).trans ?_
  refine (rn_ld d_M_judge_5 rfl rfl rfl rfl).trans ?_
  refine (rn_gi d_M_judge_6 f_4_237 zc_123).trans ?_
  refine (rn_st d_M_judge_9 rfl rfl rfl (by decide) rfl (Nat.le_of_ble_eq_true rfl) (ls' := [some (.ref 123), some (.int ((zup h.1 123 7 0) 123 32)), none]) rfl).trans ?_
  refine (rn_ld d_M_judge_10 rfl rfl rfl rfl).trans ?_
  refine (rn_push d_M_judge_11 zcs_iconst_0).trans ?_
  refine (rn_pi d_M_judge_12 f_4_237 zc_123).trans ?_
  refine (rn_push d_M_judge_15 zcs_iconst_0).trans ?_
  refine (rn_st d_M_judge_16 rfl rfl rfl (by decide) rfl (Nat.le_of_ble_eq_true rfl) (ls' := [some (.ref 123), some (.int ((zup h.1 123 7 0) 123 32)), some (.int 0)]) rfl).trans ?_
  rfl
theorem e_M_clear {X : zX} {h : zH} : zcf X m_M_clear [.ref 123] h = (some (some (.int ((zup h.1 123 7 0) 123 32)), ((zup (zup h.1 123 7 0) 123 32 0), h.2))) := by
  refine (zcf_run (Nat.le_of_ble_eq_true rfl)).trans ?_
  show zrn X 0 m_M_clear 0 [some (.ref 123), none] [] h = _
  refine (rn_ld d_M_clear_0 rfl rfl rfl rfl).trans ?_
  refine (rn_push d_M_clear_1 zcs_iconst_0).trans ?_
  refine (rn_pi d_M_clear_2 f_4_61 zc_123).trans ?_
  refine (rn_ld d_M_clear_5 rfl rfl rfl rfl).trans ?_
  refine (rn_gi d_M_clear_6 f_4_237 zc_123).trans ?_
  refine (rn_st d_M_clear_9 rfl rfl rfl (by decide) rfl (Nat.le_of_ble_eq_true rfl) (ls' := [some (.ref 123), some (.int ((zup h.1 123 7 0) 123 32))]) rfl).trans ?_
  refine (rn_ld d_M_clear_10 rfl rfl rfl rfl).trans ?_
  refine (rn_push d_M_clear_11 zcs_iconst_0).trans ?_
  refine (rn_pi d_M_clear_12 f_4_237 zc_123).trans ?_
  refine (rn_ld d_M_clear_15 rfl rfl rfl rfl).trans ?_
  exact rn_ri d_M_clear_16 rfl
theorem b_M_lots_52 {X : zX} {x1 : Int32} {x2 : Int32} {x3 : Int32} {x4 : Int32} {x5 : Int32} {x6 : Int32} {x7 : Int32} {g8 : Option Value} {h : zH} : zrn X 7 m_M_lots 52 [some (.ref 123), some (.int x1), some (.int x2), some (.int x3), some (.int x4), some (.int x5), some (.int x6), some (.int x7), g8] [] h = (if x1 ≤ x7 then (some (some (.int x6), h)) else zrn X 7 m_M_lots 61 [some (.ref 123), some (.int x1), some (.int x2), some (.int x3), some (.int x4), some (.int x5), some (.int x6), some (.int x7), some (.int 0)] [] h) := by
  refine (rn_ld d_M_lots_52 rfl rfl rfl rfl).trans ?_
  refine (rn_ld d_M_lots_54 rfl rfl rfl rfl).trans ?_
  refine (rn_ic_ge d_M_lots_55 (t := 162) (by decide)).trans (zif ?_ ?_)
  · refine (rn_ld d_M_lots_162 rfl rfl rfl rfl).trans ?_
    exact rn_ri d_M_lots_164 rfl
  · refine (rn_push d_M_lots_58 zcs_iconst_0).trans ?_
    refine (rn_st d_M_lots_59 rfl rfl rfl (by decide) rfl (Nat.le_of_ble_eq_true rfl) (ls' := [some (.ref 123), some (.int x1), some (.int x2), some (.int x3), some (.int x4), some (.int x5), some (.int x6), some (.int x7), some (.int 0)]) rfl).trans ?_
    rfl
theorem b_M_lots_61 {X : zX} {x1 : Int32} {x2 : Int32} {x3 : Int32} {x4 : Int32} {x5 : Int32} {x6 : Int32} {x7 : Int32} {x8 : Int32} {h : zH} : zrn X 7 m_M_lots 61 [some (.ref 123), some (.int x1), some (.int x2), some (.int x3), some (.int x4), some (.int x5), some (.int x6), some (.int x7), some (.int x8)] [] h = (if (h.1 123 0) ≤ x8 then (zbV (zcf X m_M_goNights [.ref 123, .int 10] h) fun h1 => (if x3 = 0 then (zbI (zcf X m_M_allOfStarts [.ref 123] h1) fun v3 h2 => zrn X 7 m_M_lots 113 [some (.ref 123), some (.int x1), some (.int x2), some (.int x3), some (.int x4), some (.int x5), some (.int (x6 + (v3 - x5))), some (.int x7), some (.int 0)] [] h2) else zrn X 7 m_M_lots 113 [some (.ref 123), some (.int x1), some (.int x2), some (.int x3), some (.int x4), some (.int x5), some (.int x6), some (.int x7), some (.int 0)] [] h1)) else (zbI (zcf X m_M_drawBelow [.ref 123, .int 4] h) fun v5 h4 => (if zin x8 7 = true then zrn X 7 m_M_lots 61 [some (.ref 123), some (.int x1), some (.int x2), some (.int x3), some (.int x4), some (.int x5), some (.int x6), some (.int x7), some (.int (x8 + 1))] [] ((zup h4.1 127 (Int32.toNatClampNeg x8) v5), h4.2) else none))) := by
  refine (rn_ld d_M_lots_61 rfl rfl rfl rfl).trans ?_
  refine (rn_ld d_M_lots_63 rfl rfl rfl rfl).trans ?_
  refine (rn_gi d_M_lots_64 f_4_65 zc_123).trans ?_
  refine (rn_ic_ge d_M_lots_67 (t := 88) (by decide)).trans (zif ?_ ?_)
  · refine (rn_ld d_M_lots_88 rfl rfl rfl rfl).trans ?_
    refine (rn_push d_M_lots_89 zcs_bipush_10).trans ?_
    refine (rn_vV d_M_lots_91 (zinv_v l_4_162 (by decide) (Nat.le_of_ble_eq_true rfl) rfl rfl zc_123 (Nat.le_of_ble_eq_true rfl)) (Nat.le_of_ble_eq_true rfl) rfl).trans (zbV_congr fun h1 => ?_)
    refine (rn_ld d_M_lots_94 rfl rfl rfl rfl).trans ?_
    refine (rn_if_ne d_M_lots_95 (t := 110) (by decide)).trans (zif ?_ ?_)
    · refine (rn_ld d_M_lots_98 rfl rfl rfl rfl).trans ?_
      refine (rn_ld d_M_lots_100 rfl rfl rfl rfl).trans ?_
      refine (rn_vI d_M_lots_101 (zinv_v l_4_212 (by decide) (Nat.le_of_ble_eq_true rfl) rfl rfl zc_123 (Nat.le_of_ble_eq_true rfl)) (Nat.le_of_ble_eq_true rfl) (Or.inl rfl)).trans (zbI_congr fun v3 h2 => ?_)
      refine (rn_ld d_M_lots_104 rfl rfl rfl rfl).trans ?_
      refine (rn_a2 d_M_lots_106 rfl).trans ?_
      refine (rn_a2 d_M_lots_107 rfl).trans ?_
      refine (rn_st d_M_lots_108 rfl rfl rfl (by decide) rfl (Nat.le_of_ble_eq_true rfl) (ls' := [some (.ref 123), some (.int x1), some (.int x2), some (.int x3), some (.int x4), some (.int x5), some (.int (x6 + (v3 - x5))), some (.int x7), some (.int x8)]) rfl).trans ?_
      refine (rn_push d_M_lots_110 zcs_iconst_0).trans ?_
      refine (rn_st d_M_lots_111 rfl rfl rfl (by decide) rfl (Nat.le_of_ble_eq_true rfl) (ls' := [some (.ref 123), some (.int x1), some (.int x2), some (.int x3), some (.int x4), some (.int x5), some (.int (x6 + (v3 - x5))), some (.int x7), some (.int 0)]) rfl).trans ?_
      rfl
    · refine (rn_push d_M_lots_110 zcs_iconst_0).trans ?_
      refine (rn_st d_M_lots_111 rfl rfl rfl (by decide) rfl (Nat.le_of_ble_eq_true rfl) (ls' := [some (.ref 123), some (.int x1), some (.int x2), some (.int x3), some (.int x4), some (.int x5), some (.int x6), some (.int x7), some (.int 0)]) rfl).trans ?_
      rfl
  · refine (rn_ld d_M_lots_70 rfl rfl rfl rfl).trans ?_
    refine (rn_gr d_M_lots_71 f_4_19 zc_123 zr_123_4).trans ?_
    refine (rn_ld d_M_lots_74 rfl rfl rfl rfl).trans ?_
    refine (rn_ld d_M_lots_76 rfl rfl rfl rfl).trans ?_
    refine (rn_push d_M_lots_77 zcs_iconst_4).trans ?_
    refine (rn_vI d_M_lots_78 (zinv_v l_4_272 (by decide) (Nat.le_of_ble_eq_true rfl) rfl rfl zc_123 (Nat.le_of_ble_eq_true rfl)) (Nat.le_of_ble_eq_true rfl) (Or.inl rfl)).trans (zbI_congr fun v5 h4 => ?_)
    refine (rn_ias d_M_lots_81 zc_127).trans (zif ?_ rfl)
    refine (rn_inc d_M_lots_82 rfl (c := 1) (by decide) (ls' := [some (.ref 123), some (.int x1), some (.int x2), some (.int x3), some (.int x4), some (.int x5), some (.int x6), some (.int x7), some (.int (x8 + 1))]) rfl).trans ?_
    refine (rn_goto d_M_lots_85 (t := 61) (by decide)).trans ?_
    rfl
theorem b_M_lots_113 {X : zX} {x1 : Int32} {x2 : Int32} {x3 : Int32} {x4 : Int32} {x5 : Int32} {x6 : Int32} {x7 : Int32} {x8 : Int32} {h : zH} : zrn X 7 m_M_lots 113 [some (.ref 123), some (.int x1), some (.int x2), some (.int x3), some (.int x4), some (.int x5), some (.int x6), some (.int x7), some (.int x8)] [] h = (if (h.1 123 0) ≤ x8 then (zbV (zcf X m_M_again [.ref 123] h) fun h1 => zrn X 7 m_M_lots 52 [some (.ref 123), some (.int x1), some (.int x2), some (.int x3), some (.int x4), some (.int x5), some (.int x6), some (.int (x7 + 1)), some (.int x8)] [] h1) else (if x3 = 1 then (zbI (zcf X m_M_aheadOf [.ref 123, .int x8] h) fun v3 h2 => zrn X 7 m_M_lots 113 [some (.ref 123), some (.int x1), some (.int x2), some (.int x3), some (.int x4), some (.int x5), some (.int (x6 + (if 0 ≤ v3 then (1 : Int32) else 0))), some (.int x7), some (.int (x8 + 1))] [] h2) else (zbV (zcf X m_M_again [.ref 123] h) fun h5 => zrn X 7 m_M_lots 52 [some (.ref 123), some (.int x1), some (.int x2), some (.int x3), some (.int x4), some (.int x5), some (.int x6), some (.int (x7 + 1)), some (.int x8)] [] h5))) := by
  refine (rn_ld d_M_lots_113 rfl rfl rfl rfl).trans ?_
  refine (rn_ld d_M_lots_115 rfl rfl rfl rfl).trans ?_
  refine (rn_gi d_M_lots_116 f_4_65 zc_123).trans ?_
  refine (rn_ic_ge d_M_lots_119 (t := 152) (by decide)).trans (zif ?_ ?_)
  · refine (rn_ld d_M_lots_152 rfl rfl rfl rfl).trans ?_
    refine (rn_vV d_M_lots_153 (zinv_v l_4_174 (by decide) (Nat.le_of_ble_eq_true rfl) rfl rfl zc_123 (Nat.le_of_ble_eq_true rfl)) (Nat.le_of_ble_eq_true rfl) rfl).trans (zbV_congr fun h1 => ?_)
    refine (rn_inc d_M_lots_156 rfl (c := 1) (by decide) (ls' := [some (.ref 123), some (.int x1), some (.int x2), some (.int x3), some (.int x4), some (.int x5), some (.int x6), some (.int (x7 + 1)), some (.int x8)]) rfl).trans ?_
    refine (rn_goto d_M_lots_159 (t := 52) (by decide)).trans ?_
    rfl
  · refine (rn_ld d_M_lots_122 rfl rfl rfl rfl).trans ?_
    refine (rn_push d_M_lots_123 zcs_iconst_1).trans ?_
    refine (rn_ic_ne d_M_lots_124 (t := 152) (by decide)).trans (zif ?_ ?_)
    · refine (rn_ld d_M_lots_127 rfl rfl rfl rfl).trans ?_
      refine (rn_ld d_M_lots_129 rfl rfl rfl rfl).trans ?_
      refine (rn_ld d_M_lots_130 rfl rfl rfl rfl).trans ?_
      refine (rn_vI d_M_lots_132 (zinv_v l_4_97 (by decide) (Nat.le_of_ble_eq_true rfl) rfl rfl zc_123 (Nat.le_of_ble_eq_true rfl)) (Nat.le_of_ble_eq_true rfl) (Or.inl rfl)).trans (zbI_congr fun v3 h2 => ?_)
      refine Eq.trans (b := zrn X 7 m_M_lots 143 [some (.ref 123), some (.int x1), some (.int x2), some (.int x3), some (.int x4), some (.int x5), some (.int x6), some (.int x7), some (.int x8)] [.int (if 0 ≤ v3 then (1 : Int32) else 0), .int x6] h2) ?_ ?_
      · refine (rn_if_ge d_M_lots_135 (t := 142) (by decide)).trans ?_
        by_cases q4 : 0 ≤ v3
        · simp only [if_pos q4]
          refine (rn_push d_M_lots_142 zcs_iconst_1).trans ?_
          all_goals rfl
        · simp only [if_neg q4]
          refine (rn_push d_M_lots_138 zcs_iconst_0).trans ?_
          refine (rn_goto d_M_lots_139 (t := 143) (by decide)).trans ?_
          all_goals rfl
      refine (rn_a2 d_M_lots_143 rfl).trans ?_
      refine (rn_st d_M_lots_144 rfl rfl rfl (by decide) rfl (Nat.le_of_ble_eq_true rfl) (ls' := [some (.ref 123), some (.int x1), some (.int x2), some (.int x3), some (.int x4), some (.int x5), some (.int (x6 + (if 0 ≤ v3 then (1 : Int32) else 0))), some (.int x7), some (.int x8)]) rfl).trans ?_
      refine (rn_inc d_M_lots_146 rfl (c := 1) (by decide) (ls' := [some (.ref 123), some (.int x1), some (.int x2), some (.int x3), some (.int x4), some (.int x5), some (.int (x6 + (if 0 ≤ v3 then (1 : Int32) else 0))), some (.int x7), some (.int (x8 + 1))]) rfl).trans ?_
      refine (rn_goto d_M_lots_149 (t := 113) (by decide)).trans ?_
      rfl
    · refine (rn_ld d_M_lots_152 rfl rfl rfl rfl).trans ?_
      refine (rn_vV d_M_lots_153 (zinv_v l_4_174 (by decide) (Nat.le_of_ble_eq_true rfl) rfl rfl zc_123 (Nat.le_of_ble_eq_true rfl)) (Nat.le_of_ble_eq_true rfl) rfl).trans (zbV_congr fun h5 => ?_)
      refine (rn_inc d_M_lots_156 rfl (c := 1) (by decide) (ls' := [some (.ref 123), some (.int x1), some (.int x2), some (.int x3), some (.int x4), some (.int x5), some (.int x6), some (.int (x7 + 1)), some (.int x8)]) rfl).trans ?_
      refine (rn_goto d_M_lots_159 (t := 52) (by decide)).trans ?_
      rfl
theorem e_M_lots {X : zX} {x1 : Int32} {x2 : Int32} {x3 : Int32} {h : zH} : zcf X m_M_lots [.ref 123, .int x1, .int x2, .int x3] h = (zbI (zcf X m_M_wrongNumber [.int x1, .int 1, .int 20] ((zup h.1 123 7 0), h.2)) fun v2 h1 => (zbI (zcf X m_M_wrongBit [.int v2, .int x3, .int 1] h1) fun v4 h3 => (if 0 ≤ v4 then (zbI (zcf X m_M_allOfStarts [.ref 123] ((zup h3.1 123 34 x2), h3.2)) fun v6 h5 => (zbV (zcf X m_M_think [.ref 123] h5) fun h7 => zrn X 7 m_M_lots 52 [some (.ref 123), some (.int x1), some (.int x2), some (.int x3), some (.int v4), some (.int v6), some (.int 0), some (.int 0), none] [] h7)) else (zbI (zcf X m_M_refuse [.ref 123, .int v4] h3) fun v9 h8 => (some (some (.int v9), h8)))))) := by
  refine (zcf_run (Nat.le_of_ble_eq_true rfl)).trans ?_
  show zrn X 7 m_M_lots 0 [some (.ref 123), some (.int x1), some (.int x2), some (.int x3), none, none, none, none, none] [] h = _
  refine (rn_ld d_M_lots_0 rfl rfl rfl rfl).trans ?_
  refine (rn_push d_M_lots_1 zcs_iconst_0).trans ?_
  refine (rn_pi d_M_lots_2 f_4_61 zc_123).trans ?_
  refine (rn_ld d_M_lots_5 rfl rfl rfl rfl).trans ?_
  refine (rn_push d_M_lots_6 zcs_iconst_1).trans ?_
  refine (rn_push d_M_lots_7 zcs_bipush_20).trans ?_
  refine (rn_sI d_M_lots_9 nb_4_201 (zinv_s l_4_201 (by decide) (Nat.le_of_ble_eq_true rfl) rfl rfl (Nat.le_of_ble_eq_true rfl)) (Nat.le_of_ble_eq_true rfl) (Or.inl rfl)).trans (zbI_congr fun v2 h1 => ?_)
  refine (rn_ld d_M_lots_12 rfl rfl rfl rfl).trans ?_
  refine (rn_push d_M_lots_13 zcs_iconst_1).trans ?_
  refine (rn_sI d_M_lots_14 nb_4_215 (zinv_s l_4_215 (by decide) (Nat.le_of_ble_eq_true rfl) rfl rfl (Nat.le_of_ble_eq_true rfl)) (Nat.le_of_ble_eq_true rfl) (Or.inl rfl)).trans (zbI_congr fun v4 h3 => ?_)
  refine (rn_st d_M_lots_17 rfl rfl rfl (by decide) rfl (Nat.le_of_ble_eq_true rfl) (ls' := [some (.ref 123), some (.int x1), some (.int x2), some (.int x3), some (.int v4), none, none, none, none]) rfl).trans ?_
  refine (rn_ld d_M_lots_19 rfl rfl rfl rfl).trans ?_
  refine (rn_if_ge d_M_lots_21 (t := 31) (by decide)).trans (zif ?_ ?_)
  · refine (rn_ld d_M_lots_31 rfl rfl rfl rfl).trans ?_
    refine (rn_ld d_M_lots_32 rfl rfl rfl rfl).trans ?_
    refine (rn_pi d_M_lots_33 f_4_266 zc_123).trans ?_
    refine (rn_ld d_M_lots_36 rfl rfl rfl rfl).trans ?_
    refine (rn_vI d_M_lots_37 (zinv_v l_4_212 (by decide) (Nat.le_of_ble_eq_true rfl) rfl rfl zc_123 (Nat.le_of_ble_eq_true rfl)) (Nat.le_of_ble_eq_true rfl) (Or.inl rfl)).trans (zbI_congr fun v6 h5 => ?_)
    refine (rn_st d_M_lots_40 rfl rfl rfl (by decide) rfl (Nat.le_of_ble_eq_true rfl) (ls' := [some (.ref 123), some (.int x1), some (.int x2), some (.int x3), some (.int v4), some (.int v6), none, none, none]) rfl).trans ?_
    refine (rn_push d_M_lots_42 zcs_iconst_0).trans ?_
    refine (rn_st d_M_lots_43 rfl rfl rfl (by decide) rfl (Nat.le_of_ble_eq_true rfl) (ls' := [some (.ref 123), some (.int x1), some (.int x2), some (.int x3), some (.int v4), some (.int v6), some (.int 0), none, none]) rfl).trans ?_
    refine (rn_ld d_M_lots_45 rfl rfl rfl rfl).trans ?_
    refine (rn_vV d_M_lots_46 (zinv_v l_4_168 (by decide) (Nat.le_of_ble_eq_true rfl) rfl rfl zc_123 (Nat.le_of_ble_eq_true rfl)) (Nat.le_of_ble_eq_true rfl) rfl).trans (zbV_congr fun h7 => ?_)
    refine (rn_push d_M_lots_49 zcs_iconst_0).trans ?_
    refine (rn_st d_M_lots_50 rfl rfl rfl (by decide) rfl (Nat.le_of_ble_eq_true rfl) (ls' := [some (.ref 123), some (.int x1), some (.int x2), some (.int x3), some (.int v4), some (.int v6), some (.int 0), some (.int 0), none]) rfl).trans ?_
    rfl
  · refine (rn_ld d_M_lots_24 rfl rfl rfl rfl).trans ?_
    refine (rn_ld d_M_lots_25 rfl rfl rfl rfl).trans ?_
    refine (rn_vI d_M_lots_27 (zinv_v l_4_123 (by decide) (Nat.le_of_ble_eq_true rfl) rfl rfl zc_123 (Nat.le_of_ble_eq_true rfl)) (Nat.le_of_ble_eq_true rfl) (Or.inl rfl)).trans (zbI_congr fun v9 h8 => ?_)
    exact rn_ri d_M_lots_30 rfl
theorem e_M_drawBelow {X : zX} {x1 : Int32} {h : zH} : zcf X m_M_drawBelow [.ref 123, .int x1] h = (if x1 = 0 then none else (some (some (.int (zrem ((((zup h.1 123 34 (((h.1 123 34) * 1103515245) + 12345)) 123 34) &&& 2147483647) / 65536) x1)), ((zup h.1 123 34 (((h.1 123 34) * 1103515245) + 12345)), h.2)))) := by
  refine (zcf_run (Nat.le_of_ble_eq_true rfl)).trans ?_
  show zrn X 0 m_M_drawBelow 0 [some (.ref 123), some (.int x1)] [] h = _
  refine (rn_ld d_M_drawBelow_0 rfl rfl rfl rfl).trans ?_
  refine (rn_ld d_M_drawBelow_1 rfl rfl rfl rfl).trans ?_
  refine (rn_gi d_M_drawBelow_2 f_4_266 zc_123).trans ?_
  refine (rn_push d_M_drawBelow_5 zcs_ldc_4_269).trans ?_
  refine (rn_a2 d_M_drawBelow_8 rfl).trans ?_
  refine (rn_push d_M_drawBelow_9 zcs_sipush_12345).trans ?_
  refine (rn_a2 d_M_drawBelow_12 rfl).trans ?_
  refine (rn_pi d_M_drawBelow_13 f_4_266 zc_123).trans ?_
  refine (rn_ld d_M_drawBelow_16 rfl rfl rfl rfl).trans ?_
  refine (rn_gi d_M_drawBelow_17 f_4_266 zc_123).trans ?_
  refine (rn_push d_M_drawBelow_20 zcs_ldc_4_270).trans ?_
  refine (rn_a2 d_M_drawBelow_23 rfl).trans ?_
  refine (rn_push d_M_drawBelow_24 zcs_ldc_4_271).trans ?_
  refine (rn_a2 d_M_drawBelow_27 (zar_div (by decide))).trans ?_
  refine (rn_ld d_M_drawBelow_28 rfl rfl rfl rfl).trans ?_
  refine (rn_girem d_M_drawBelow_29).trans (zif rfl ?_)
  exact rn_ri d_M_drawBelow_30 rfl
theorem b_M_count_73 {X : zX} {x1 : Int32} {x2 : Int32} {x3 : Int32} {h : zH} : zrn X 4 m_M_count 73 [some (.ref 123), some (.int x1), some (.int x2), some (.int x3)] [] h = (if (h.1 123 0) ≤ x3 then (some (some (.int x2), h)) else (zbI (zcf X m_M_aheadOf [.ref 123, .int x3] h) fun v2 h1 => zrn X 4 m_M_count 73 [some (.ref 123), some (.int x1), some (.int (x2 + (if 0 ≤ v2 then (1 : Int32) else 0))), some (.int (x3 + 1))] [] h1)) := by
  refine (rn_ld d_M_count_73 rfl rfl rfl rfl).trans ?_
  refine (rn_ld d_M_count_74 rfl rfl rfl rfl).trans ?_
  refine (rn_gi d_M_count_75 f_4_65 zc_123).trans ?_
  refine (rn_ic_ge d_M_count_78 (t := 103) (by decide)).trans (zif ?_ ?_)
  · refine (rn_ld d_M_count_103 rfl rfl rfl rfl).trans ?_
    exact rn_ri d_M_count_104 rfl
  · refine (rn_ld d_M_count_81 rfl rfl rfl rfl).trans ?_
    refine (rn_ld d_M_count_82 rfl rfl rfl rfl).trans ?_
    refine (rn_ld d_M_count_83 rfl rfl rfl rfl).trans ?_
    refine (rn_vI d_M_count_84 (zinv_v l_4_97 (by decide) (Nat.le_of_ble_eq_true rfl) rfl rfl zc_123 (Nat.le_of_ble_eq_true rfl)) (Nat.le_of_ble_eq_true rfl) (Or.inl rfl)).trans (zbI_congr fun v2 h1 => ?_)
    refine Eq.trans (b := zrn X 4 m_M_count 95 [some (.ref 123), some (.int x1), some (.int x2), some (.int x3)] [.int (if 0 ≤ v2 then (1 : Int32) else 0), .int x2] h1) ?_ ?_
    · refine (rn_if_ge d_M_count_87 (t := 94) (by decide)).trans ?_
      by_cases q3 : 0 ≤ v2
      · simp only [if_pos q3]
        refine (rn_push d_M_count_94 zcs_iconst_1).trans ?_
        all_goals rfl
      · simp only [if_neg q3]
        refine (rn_push d_M_count_90 zcs_iconst_0).trans ?_
        refine (rn_goto d_M_count_91 (t := 95) (by decide)).trans ?_
        all_goals rfl
    refine (rn_a2 d_M_count_95 rfl).trans ?_
    refine (rn_st d_M_count_96 rfl rfl rfl (by decide) rfl (Nat.le_of_ble_eq_true rfl) (ls' := [some (.ref 123), some (.int x1), some (.int (x2 + (if 0 ≤ v2 then (1 : Int32) else 0))), some (.int x3)]) rfl).trans ?_
    refine (rn_inc d_M_count_97 rfl (c := 1) (by decide) (ls' := [some (.ref 123), some (.int x1), some (.int (x2 + (if 0 ≤ v2 then (1 : Int32) else 0))), some (.int (x3 + 1))]) rfl).trans ?_
    refine (rn_goto d_M_count_100 (t := 73) (by decide)).trans ?_
    rfl
theorem b_M_count_107 {X : zX} {x1 : Int32} {x2 : Int32} {x3 : Int32} {h : zH} : zrn X 4 m_M_count 107 [some (.ref 123), some (.int x1), some (.int x2), some (.int x3)] [] h = (if (h.1 123 0) ≤ x3 then (some (some (.int x2), h)) else (zbI (zcf X m_M_lensOf [.ref 123, .int x3] h) fun v2 h1 => zrn X 4 m_M_count 107 [some (.ref 123), some (.int x1), some (.int (x2 + (if 0 ≤ v2 then (1 : Int32) else 0))), some (.int (x3 + 1))] [] h1)) := by
  refine (rn_ld d_M_count_107 rfl rfl rfl rfl).trans ?_
  refine (rn_ld d_M_count_108 rfl rfl rfl rfl).trans ?_
  refine (rn_gi d_M_count_109 f_4_65 zc_123).trans ?_
  refine (rn_ic_ge d_M_count_112 (t := 137) (by decide)).trans (zif ?_ ?_)
  · refine (rn_ld d_M_count_137 rfl rfl rfl rfl).trans ?_
    exact rn_ri d_M_count_138 rfl
  · refine (rn_ld d_M_count_115 rfl rfl rfl rfl).trans ?_
    refine (rn_ld d_M_count_116 rfl rfl rfl rfl).trans ?_
    refine (rn_ld d_M_count_117 rfl rfl rfl rfl).trans ?_
    refine (rn_vI d_M_count_118 (zinv_v l_4_113 (by decide) (Nat.le_of_ble_eq_true rfl) rfl rfl zc_123 (Nat.le_of_ble_eq_true rfl)) (Nat.le_of_ble_eq_true rfl) (Or.inl rfl)).trans (zbI_congr fun v2 h1 => ?_)
    refine Eq.trans (b := zrn X 4 m_M_count 129 [some (.ref 123), some (.int x1), some (.int x2), some (.int x3)] [.int (if 0 ≤ v2 then (1 : Int32) else 0), .int x2] h1) ?_ ?_
    · refine (rn_if_ge d_M_count_121 (t := 128) (by decide)).trans ?_
      by_cases q3 : 0 ≤ v2
      · simp only [if_pos q3]
        refine (rn_push d_M_count_128 zcs_iconst_1).trans ?_
        all_goals rfl
      · simp only [if_neg q3]
        refine (rn_push d_M_count_124 zcs_iconst_0).trans ?_
        refine (rn_goto d_M_count_125 (t := 129) (by decide)).trans ?_
        all_goals rfl
    refine (rn_a2 d_M_count_129 rfl).trans ?_
    refine (rn_st d_M_count_130 rfl rfl rfl (by decide) rfl (Nat.le_of_ble_eq_true rfl) (ls' := [some (.ref 123), some (.int x1), some (.int (x2 + (if 0 ≤ v2 then (1 : Int32) else 0))), some (.int x3)]) rfl).trans ?_
    refine (rn_inc d_M_count_131 rfl (c := 1) (by decide) (ls' := [some (.ref 123), some (.int x1), some (.int (x2 + (if 0 ≤ v2 then (1 : Int32) else 0))), some (.int (x3 + 1))]) rfl).trans ?_
    refine (rn_goto d_M_count_134 (t := 107) (by decide)).trans ?_
    rfl
theorem e_M_count {X : zX} {x1 : Int32} {h : zH} : zcf X m_M_count [.ref 123, .int x1] h = (if x1 = 0 then (some (some (.int ((zup h.1 123 7 0) 123 0)), ((zup h.1 123 7 0), h.2))) else (if x1 = 1 then (some (some (.int ((zup h.1 123 7 0) 123 6)), ((zup h.1 123 7 0), h.2))) else (if x1 = 2 then (zbI (zcf X m_M_allOfStarts [.ref 123] ((zup h.1 123 7 0), h.2)) fun v5 h4 => (some (some (.int v5), h4))) else (if x1 = 3 then zrn X 4 m_M_count 73 [some (.ref 123), some (.int x1), some (.int 0), some (.int 0)] [] ((zup h.1 123 7 0), h.2) else (if x1 = 4 then zrn X 4 m_M_count 107 [some (.ref 123), some (.int x1), some (.int 0), some (.int 0)] [] ((zup h.1 123 7 0), h.2) else (if x1 = 5 then (some (some (.int ((zup h.1 123 7 0) 123 12)), ((zup h.1 123 7 0), h.2))) else (if x1 = 6 then (some (some (.int ((zup h.1 123 7 0) 123 32)), ((zup h.1 123 7 0), h.2))) else (if x1 = 7 then (some (some (.int ((zup h.1 123 7 0) 123 27)), ((zup h.1 123 7 0), h.2))) else (zbI (zcf X m_M_in [.long (Int32.toInt64 x1), .long 11, .long 16] ((zup h.1 123 7 0), h.2)) fun v12 h11 => (if v12 = 0 then (some (some (.int (-9)), h11)) else (if zin (x1 - 10) 7 = true then (some (some (.int (h11.1 129 (Int32.toNatClampNeg (x1 - 10)))), h11)) else none))))))))))) := by
  refine (zcf_run (Nat.le_of_ble_eq_true rfl)).trans ?_
  show zrn X 4 m_M_count 0 [some (.ref 123), some (.int x1), none, none] [] h = _
  refine (rn_ld d_M_count_0 rfl rfl rfl rfl).trans ?_
  refine (rn_push d_M_count_1 zcs_iconst_0).trans ?_
  refine (rn_pi d_M_count_2 f_4_61 zc_123).trans ?_
  refine (rn_push d_M_count_5 zcs_iconst_0).trans ?_
  refine (rn_st d_M_count_6 rfl rfl rfl (by decide) rfl (Nat.le_of_ble_eq_true rfl) (ls' := [some (.ref 123), some (.int x1), some (.int 0), none]) rfl).trans ?_
  refine (rn_ld d_M_count_7 rfl rfl rfl rfl).trans ?_
  refine zite (fun q1 => ?_) (fun q1 => ?_)
  · refine (rn_tsw d_M_count_8 (t := 56) (by rw [q1]; decide +kernel)).trans ?_
    refine (rn_ld d_M_count_56 rfl rfl rfl rfl).trans ?_
    refine (rn_gi d_M_count_57 f_4_65 zc_123).trans ?_
    exact rn_ri d_M_count_60 rfl
  · refine zite (fun q2 => ?_) (fun q2 => ?_)
    · refine (rn_tsw d_M_count_8 (t := 61) (by rw [q2]; decide +kernel)).trans ?_
      refine (rn_ld d_M_count_61 rfl rfl rfl rfl).trans ?_
      refine (rn_gi d_M_count_62 f_4_107 zc_123).trans ?_
      exact rn_ri d_M_count_65 rfl
    · refine zite (fun q3 => ?_) (fun q3 => ?_)
      · refine (rn_tsw d_M_count_8 (t := 66) (by rw [q3]; decide +kernel)).trans ?_
        refine (rn_ld d_M_count_66 rfl rfl rfl rfl).trans ?_
        refine (rn_vI d_M_count_67 (zinv_v l_4_212 (by decide) (Nat.le_of_ble_eq_true rfl) rfl rfl zc_123 (Nat.le_of_ble_eq_true rfl)) (Nat.le_of_ble_eq_true rfl) (Or.inl rfl)).trans (zbI_congr fun v5 h4 => ?_)
        exact rn_ri d_M_count_70 rfl
      · refine zite (fun q6 => ?_) (fun q6 => ?_)
        · refine (rn_tsw d_M_count_8 (t := 71) (by rw [q6]; decide +kernel)).trans ?_
          refine (rn_push d_M_count_71 zcs_iconst_0).trans ?_
          refine (rn_st d_M_count_72 rfl rfl rfl (by decide) rfl (Nat.le_of_ble_eq_true rfl) (ls' := [some (.ref 123), some (.int x1), some (.int 0), some (.int 0)]) rfl).trans ?_
          rfl
        · refine zite (fun q7 => ?_) (fun q7 => ?_)
          · refine (rn_tsw d_M_count_8 (t := 105) (by rw [q7]; decide +kernel)).trans ?_
            refine (rn_push d_M_count_105 zcs_iconst_0).trans ?_
            refine (rn_st d_M_count_106 rfl rfl rfl (by decide) rfl (Nat.le_of_ble_eq_true rfl) (ls' := [some (.ref 123), some (.int x1), some (.int 0), some (.int 0)]) rfl).trans ?_
            rfl
          · refine zite (fun q8 => ?_) (fun q8 => ?_)
            · refine (rn_tsw d_M_count_8 (t := 139) (by rw [q8]; decide +kernel)).trans ?_
              refine (rn_ld d_M_count_139 rfl rfl rfl rfl).trans ?_
              refine (rn_gi d_M_count_140 f_4_126 zc_123).trans ?_
              exact rn_ri d_M_count_143 rfl
            · refine zite (fun q9 => ?_) (fun q9 => ?_)
              · refine (rn_tsw d_M_count_8 (t := 144) (by rw [q9]; decide +kernel)).trans ?_
                refine (rn_ld d_M_count_144 rfl rfl rfl rfl).trans ?_
                refine (rn_gi d_M_count_145 f_4_237 zc_123).trans ?_
                exact rn_ri d_M_count_148 rfl
              · refine zite (fun q10 => ?_) (fun q10 => ?_)
                · refine (rn_tsw d_M_count_8 (t := 149) (by rw [q10]; decide +kernel)).trans ?_
                  refine (rn_ld d_M_count_149 rfl rfl rfl rfl).trans ?_
                  refine (rn_gi d_M_count_150 f_4_177 zc_123).trans ?_
                  exact rn_ri d_M_count_153 rfl
                · refine (rn_tsw d_M_count_8 (t := 154) (zsw_out (by have z0 := lv_neT q1 (a := 0) rfl; have z1 := lv_neT q2 (a := 1) rfl; have z2 := lv_neT q3 (a := 2) rfl; have z3 := lv_neT q6 (a := 3) rfl; have z4 := lv_neT q7 (a := 4) rfl; have z5 := lv_neT q8 (a := 5) rfl; have z6 := lv_neT q9 (a := 6) rfl; have z7 := lv_neT q10 (a := 7) rfl; omega) (by decide))).trans ?_
                  refine (rn_ld d_M_count_154 rfl rfl rfl rfl).trans ?_
                  refine (rn_i2l d_M_count_155).trans ?_
                  refine (rn_push d_M_count_156 zcs_ldc2_4_275).trans ?_
                  refine (rn_push d_M_count_159 zcs_ldc2_4_277).trans ?_
                  refine (rn_sI d_M_count_162 nb_4_68 (zinv_s l_4_68 (by decide) (Nat.le_of_ble_eq_true rfl) rfl rfl (Nat.le_of_ble_eq_true rfl)) (Nat.le_of_ble_eq_true rfl) (Or.inr rfl)).trans (zbI_congr fun v12 h11 => ?_)
                  refine (rn_if_eq d_M_count_165 (t := 180) (by decide)).trans (zif ?_ ?_)
                  · refine (rn_push d_M_count_180 zcs_bipush_m9).trans ?_
                    exact rn_ri d_M_count_182 rfl
                  · refine (rn_ld d_M_count_168 rfl rfl rfl rfl).trans ?_
                    refine (rn_gr d_M_count_169 f_4_25 zc_123 zr_123_8).trans ?_
                    refine (rn_ld d_M_count_172 rfl rfl rfl rfl).trans ?_
                    refine (rn_push d_M_count_173 zcs_bipush_10).trans ?_
                    refine (rn_a2 d_M_count_175 rfl).trans ?_
                    refine (rn_ial d_M_count_176 (by decide) zc_129).trans (zif ?_ rfl)
                    refine (rn_goto d_M_count_177 (t := 182) (by decide)).trans ?_
                    exact rn_ri d_M_count_182 rfl
