theorem e_T_append {X : zX} {x1 : Int32} {h : zH} : zcf X m_T_append [.ref 71, .int x1] h = (zbV (zcf X m_X_put [.ref 72, .int (h.1 71 1), .int x1] h) fun h1 => (some (some (.int ((zup h1.1 71 1 ((h1.1 71 1) + 1)) 71 1)), ((zup h1.1 71 1 ((h1.1 71 1) + 1)), h1.2)))) := by
  refine (zcf_run (Nat.le_of_ble_eq_true rfl)).trans ?_
  show zrn X 1 m_T_append 0 [some (.ref 71), some (.int x1)] [] h = _
  refine (rn_ld d_T_append_0 rfl rfl rfl rfl).trans ?_
  refine (rn_gr d_T_append_1 f_2_9 zc_71 zr_71_0).trans ?_
  refine (rn_ld d_T_append_4 rfl rfl rfl rfl).trans ?_
  refine (rn_gi d_T_append_5 f_2_15 zc_71).trans ?_
  refine (rn_ld d_T_append_8 rfl rfl rfl rfl).trans ?_
  refine (rn_sV d_T_append_9 nb_2_19 (zinv_s l_2_19 (by decide) (Nat.le_of_ble_eq_true rfl) rfl rfl (Nat.le_of_ble_eq_true rfl)) (Nat.le_of_ble_eq_true rfl) rfl).trans (zbV_congr fun h1 => ?_)
  refine (rn_ld d_T_append_12 rfl rfl rfl rfl).trans ?_
  refine (rn_dup d_T_append_13 rfl).trans ?_
  refine (rn_gi d_T_append_14 f_2_15 zc_71).trans ?_
  refine (rn_push d_T_append_17 zcs_iconst_1).trans ?_
  refine (rn_a2 d_T_append_18 rfl).trans ?_
  refine (rn_pi d_T_append_19 f_2_15 zc_71).trans ?_
  refine (rn_ld d_T_append_22 rfl rfl rfl rfl).trans ?_
  refine (rn_gi d_T_append_23 f_2_15 zc_71).trans ?_
  exact rn_ri d_T_append_26 rfl
theorem b_T_wrongPlace_6 {X : zX} {x1 : Int32} {x2 : Int32} {x3 : Int32} {g4 : Option Value} {h : zH} : zrn X 1 m_T_wrongPlace 6 [some (.ref 71), some (.int x1), some (.int x2), some (.int x3), g4] [] h = (if (h.1 71 1) ≤ x3 then (if x1 = 0 then (some (some (.int (h.1 71 1)), h)) else (if (h.1 71 1) ≤ 0 then (some (some (.int (h.1 71 1)), h)) else (some (some (.int (-9)), h)))) else (zbI (zcf X m_X_at [.ref 72, .int x3] h) fun v2 h1 => (if x1 = 0 then (if x2 ≤ 0 then (if v2 = 59 then zrn X 1 m_T_wrongPlace 6 [some (.ref 71), some (.int 1), some (.int x2), some (.int (x3 + 1)), some (.int v2)] [] h1 else (some (some (.int x3), h1))) else (if v2 < 48 then (some (some (.int x3), h1)) else (if v2 ≤ 57 then zrn X 1 m_T_wrongPlace 6 [some (.ref 71), some (.int x1), some (.int (x2 + (-1))), some (.int (x3 + 1)), some (.int v2)] [] h1 else (some (some (.int x3), h1))))) else (zbI (zcf X m_T_digitsBehind [.int v2] h1) fun v4 h3 => (if v4 = 0 then (some (some (.int x3), h3)) else zrn X 1 m_T_wrongPlace 6 [some (.ref 71), some (.int 0), some (.int v4), some (.int (x3 + 1)), some (.int v2)] [] h3))))) := by
  refine (rn_ld d_T_wrongPlace_6 rfl rfl rfl rfl).trans ?_
  refine (rn_ld d_T_wrongPlace_7 rfl rfl rfl rfl).trans ?_
  refine (rn_gi d_T_wrongPlace_8 f_2_15 zc_71).trans ?_
  refine (rn_ic_ge d_T_wrongPlace_11 (t := 88) (by decide)).trans (zif ?_ ?_)
  · refine (rn_ld d_T_wrongPlace_88 rfl rfl rfl rfl).trans ?_
    refine (rn_if_eq d_T_wrongPlace_89 (t := 104) (by decide)).trans (zif ?_ ?_)
    · refine (rn_ld d_T_wrongPlace_104 rfl rfl rfl rfl).trans ?_
      refine (rn_gi d_T_wrongPlace_105 f_2_15 zc_71).trans ?_
      exact rn_ri d_T_wrongPlace_108 rfl
    · refine (rn_ld d_T_wrongPlace_92 rfl rfl rfl rfl).trans ?_
      refine (rn_gi d_T_wrongPlace_93 f_2_15 zc_71).trans ?_
      refine (rn_if_le d_T_wrongPlace_96 (t := 104) (by decide)).trans (zif ?_ ?_)
      · refine (rn_ld d_T_wrongPlace_104 rfl rfl rfl rfl).trans ?_
        refine (rn_gi d_T_wrongPlace_105 f_2_15 zc_71).trans ?_
        exact rn_ri d_T_wrongPlace_108 rfl
      · refine (rn_push d_T_wrongPlace_99 zcs_bipush_m9).trans ?_
        refine (rn_goto d_T_wrongPlace_101 (t := 108) (by decide)).trans ?_
        exact rn_ri d_T_wrongPlace_108 rfl
  · refine (rn_ld d_T_wrongPlace_14 rfl rfl rfl rfl).trans ?_
    refine (rn_gr d_T_wrongPlace_15 f_2_9 zc_71 zr_71_0).trans ?_
    refine (rn_ld d_T_wrongPlace_18 rfl rfl rfl rfl).trans ?_
    refine (rn_sI d_T_wrongPlace_19 nb_2_23 (zinv_s l_2_23 (by decide) (Nat.le_of_ble_eq_true rfl) rfl rfl (Nat.le_of_ble_eq_true rfl)) (Nat.le_of_ble_eq_true rfl) (Or.inl rfl)).trans (zbI_congr fun v2 h1 => ?_)
    refine (rn_st d_T_wrongPlace_22 rfl rfl rfl (by decide) rfl (Nat.le_of_ble_eq_true rfl) (ls' := [some (.ref 71), some (.int x1), some (.int x2), some (.int x3), some (.int v2)]) rfl).trans ?_
    refine (rn_ld d_T_wrongPlace_24 rfl rfl rfl rfl).trans ?_
    refine (rn_if_eq d_T_wrongPlace_25 (t := 45) (by decide)).trans (zif ?_ ?_)
    · refine (rn_ld d_T_wrongPlace_45 rfl rfl rfl rfl).trans ?_
      refine (rn_if_le d_T_wrongPlace_46 (t := 71) (by decide)).trans (zif ?_ ?_)
      · refine (rn_ld d_T_wrongPlace_71 rfl rfl rfl rfl).trans ?_
        refine (rn_push d_T_wrongPlace_73 zcs_bipush_59).trans ?_
        refine (rn_ic_eq d_T_wrongPlace_75 (t := 80) (by decide)).trans (zif ?_ ?_)
        · refine (rn_push d_T_wrongPlace_80 zcs_iconst_1).trans ?_
          refine (rn_st d_T_wrongPlace_81 rfl rfl rfl (by decide) rfl (Nat.le_of_ble_eq_true rfl) (ls' := [some (.ref 71), some (.int 1), some (.int x2), some (.int x3), some (.int v2)]) rfl).trans ?_
          refine (rn_inc d_T_wrongPlace_82 rfl (c := 1) (by decide) (ls' := [some (.ref 71), some (.int 1), some (.int x2), some (.int (x3 + 1)), some (.int v2)]) rfl).trans ?_
          refine (rn_goto d_T_wrongPlace_85 (t := 6) (by decide)).trans ?_
          rfl
        · refine (rn_ld d_T_wrongPlace_78 rfl rfl rfl rfl).trans ?_
          exact rn_ri d_T_wrongPlace_79 rfl
      · refine (rn_ld d_T_wrongPlace_49 rfl rfl rfl rfl).trans ?_
        refine (rn_push d_T_wrongPlace_51 zcs_bipush_48).trans ?_
        refine (rn_ic_lt d_T_wrongPlace_53 (t := 63) (by decide)).trans (zif ?_ ?_)
        · refine (rn_ld d_T_wrongPlace_63 rfl rfl rfl rfl).trans ?_
          exact rn_ri d_T_wrongPlace_64 rfl
        · refine (rn_ld d_T_wrongPlace_56 rfl rfl rfl rfl).trans ?_
          refine (rn_push d_T_wrongPlace_58 zcs_bipush_57).trans ?_
          refine (rn_ic_le d_T_wrongPlace_60 (t := 65) (by decide)).trans (zif ?_ ?_)
          · refine (rn_inc d_T_wrongPlace_65 rfl (c := (-1)) (by decide) (ls' := [some (.ref 71), some (.int x1), some (.int (x2 + (-1))), some (.int x3), some (.int v2)]) rfl).trans ?_
            refine (rn_goto d_T_wrongPlace_68 (t := 82) (by decide)).trans ?_
            refine (rn_inc d_T_wrongPlace_82 rfl (c := 1) (by decide) (ls' := [some (.ref 71), some (.int x1), some (.int (x2 + (-1))), some (.int (x3 + 1)), some (.int v2)]) rfl).trans ?_
            refine (rn_goto d_T_wrongPlace_85 (t := 6) (by decide)).trans ?_
            rfl
          · refine (rn_ld d_T_wrongPlace_63 rfl rfl rfl rfl).trans ?_
            exact rn_ri d_T_wrongPlace_64 rfl
    · refine (rn_ld d_T_wrongPlace_28 rfl rfl rfl rfl).trans ?_
      refine (rn_sI d_T_wrongPlace_30 nb_2_27 (zinv_s l_2_27 (by decide) (Nat.le_of_ble_eq_true rfl) rfl rfl (Nat.le_of_ble_eq_true rfl)) (Nat.le_of_ble_eq_true rfl) (Or.inl rfl)).trans (zbI_congr fun v4 h3 => ?_)
      refine (rn_st d_T_wrongPlace_33 rfl rfl rfl (by decide) rfl (Nat.le_of_ble_eq_true rfl) (ls' := [some (.ref 71), some (.int x1), some (.int v4), some (.int x3), some (.int v2)]) rfl).trans ?_
      refine (rn_ld d_T_wrongPlace_34 rfl rfl rfl rfl).trans ?_
      refine (rn_if_ne d_T_wrongPlace_35 (t := 40) (by decide)).trans (zif ?_ ?_)
      · refine (rn_ld d_T_wrongPlace_38 rfl rfl rfl rfl).trans ?_
        exact rn_ri d_T_wrongPlace_39 rfl
      · refine (rn_push d_T_wrongPlace_40 zcs_iconst_0).trans ?_
        refine (rn_st d_T_wrongPlace_41 rfl rfl rfl (by decide) rfl (Nat.le_of_ble_eq_true rfl) (ls' := [some (.ref 71), some (.int 0), some (.int v4), some (.int x3), some (.int v2)]) rfl).trans ?_
        refine (rn_goto d_T_wrongPlace_42 (t := 82) (by decide)).trans ?_
        refine (rn_inc d_T_wrongPlace_82 rfl (c := 1) (by decide) (ls' := [some (.ref 71), some (.int 0), some (.int v4), some (.int (x3 + 1)), some (.int v2)]) rfl).trans ?_
        refine (rn_goto d_T_wrongPlace_85 (t := 6) (by decide)).trans ?_
        rfl
theorem e_T_wrongPlace {X : zX} {h : zH} : zcf X m_T_wrongPlace [.ref 71] h = zrn X 1 m_T_wrongPlace 6 [some (.ref 71), some (.int 1), some (.int 0), some (.int 0), none] [] h := by
  refine (zcf_run (Nat.le_of_ble_eq_true rfl)).trans ?_
  show zrn X 1 m_T_wrongPlace 0 [some (.ref 71), none, none, none, none] [] h = _
  refine (rn_push d_T_wrongPlace_0 zcs_iconst_1).trans ?_
  refine (rn_st d_T_wrongPlace_1 rfl rfl rfl (by decide) rfl (Nat.le_of_ble_eq_true rfl) (ls' := [some (.ref 71), some (.int 1), none, none, none]) rfl).trans ?_
  refine (rn_push d_T_wrongPlace_2 zcs_iconst_0).trans ?_
  refine (rn_st d_T_wrongPlace_3 rfl rfl rfl (by decide) rfl (Nat.le_of_ble_eq_true rfl) (ls' := [some (.ref 71), some (.int 1), some (.int 0), none, none]) rfl).trans ?_
  refine (rn_push d_T_wrongPlace_4 zcs_iconst_0).trans ?_
  refine (rn_st d_T_wrongPlace_5 rfl rfl rfl (by decide) rfl (Nat.le_of_ble_eq_true rfl) (ls' := [some (.ref 71), some (.int 1), some (.int 0), some (.int 0), none]) rfl).trans ?_
  rfl
theorem e_T_digitsBehind {X : zX} {x0 : Int32} {h : zH} : zcf X m_T_digitsBehind [.int x0] h = (if x0 = 99 then (some (some (.int 3), h)) else (if x0 = 102 then (some (some (.int 2), h)) else (if x0 = 110 then (some (some (.int 2), h)) else (if x0 = 112 then (some (some (.int 5), h)) else (some (some (.int 0), h)))))) := by
  refine (zcf_run (Nat.le_of_ble_eq_true rfl)).trans ?_
  show zrn X 0 m_T_digitsBehind 0 [some (.int x0)] [] h = _
  refine (rn_ld d_T_digitsBehind_0 rfl rfl rfl rfl).trans ?_
  refine zite (fun q1 => ?_) (fun q1 => ?_)
  · refine (rn_lsw d_T_digitsBehind_1 (t := 46) (by rw [q1]; decide +kernel)).trans ?_
    refine (rn_push d_T_digitsBehind_46 zcs_iconst_3).trans ?_
    exact rn_ri d_T_digitsBehind_47 rfl
  · refine zite (fun q2 => ?_) (fun q2 => ?_)
    · refine (rn_lsw d_T_digitsBehind_1 (t := 48) (by rw [q2]; decide +kernel)).trans ?_
      refine (rn_push d_T_digitsBehind_48 zcs_iconst_2).trans ?_
      exact rn_ri d_T_digitsBehind_49 rfl
    · refine zite (fun q3 => ?_) (fun q3 => ?_)
      · refine (rn_lsw d_T_digitsBehind_1 (t := 48) (by rw [q3]; decide +kernel)).trans ?_
        refine (rn_push d_T_digitsBehind_48 zcs_iconst_2).trans ?_
        exact rn_ri d_T_digitsBehind_49 rfl
      · refine zite (fun q4 => ?_) (fun q4 => ?_)
        · refine (rn_lsw d_T_digitsBehind_1 (t := 44) (by rw [q4]; decide +kernel)).trans ?_
          refine (rn_push d_T_digitsBehind_44 zcs_iconst_5).trans ?_
          exact rn_ri d_T_digitsBehind_45 rfl
        · refine (rn_lsw d_T_digitsBehind_1 (t := 50) (by unfold zlw; rw [if_pos (by decide +kernel)]; show ztg _ (Op.lookupswitch.offset [(99, 45), (102, 47), (110, 47), (112, 43)] 49 _) = _; rw [lv_osw (a := 99) (k := 99) q1 (by decide), lv_osw (a := 102) (k := 102) q2 (by decide), lv_osw (a := 110) (k := 110) q3 (by decide), lv_osw (a := 112) (k := 112) q4 (by decide)]; show ztg 1 49 = _; decide)).trans ?_
          refine (rn_push d_T_digitsBehind_50 zcs_iconst_0).trans ?_
          exact rn_ri d_T_digitsBehind_51 rfl
theorem b_H_become_39 {X : zX} {a : Nat} {a1 : Nat} {x2 : Int32} {h : zH} (H : isH a) (H1 : isH a1) : zrn X 1 m_H_become 39 [some (.ref a), some (.ref a1), some (.int x2)] [] h = (if (h.1 a 5) ≤ x2 then (some (none, h)) else (zbI (zcf X m_X_at [.ref (a1 + 1), .int x2] h) fun v2 h1 => (zbV (zcf X m_X_put [.ref (a + 1), .int x2, .int v2] h1) fun h3 => (zbI (zcf X m_X_at [.ref (a1 + 2), .int x2] h3) fun v5 h4 => (zbV (zcf X m_X_put [.ref (a + 2), .int x2, .int v5] h4) fun h6 => (zbI (zcf X m_X_at [.ref (a1 + 3), .int x2] h6) fun v8 h7 => (zbV (zcf X m_X_put [.ref (a + 3), .int x2, .int v8] h7) fun h9 => (zbI (zcf X m_X_at [.ref (a1 + 4), .int x2] h9) fun v11 h10 => (zbV (zcf X m_X_put [.ref (a + 4), .int x2, .int v11] h10) fun h12 => (zbI (zcf X m_X_at [.ref (a1 + 5), .int x2] h12) fun v14 h13 => (zbV (zcf X m_X_put [.ref (a + 5), .int x2, .int v14] h13) fun h15 => zrn X 1 m_H_become 39 [some (.ref a), some (.ref a1), some (.int (x2 + 1))] [] h15))))))))))) := by
  refine (rn_ld d_H_become_39 rfl rfl rfl rfl).trans ?_
  refine (rn_ld d_H_become_40 rfl rfl rfl rfl).trans ?_
  refine (rn_gi d_H_become_41 f_0_27 H.c).trans ?_
  refine (rn_ic_ge d_H_become_44 (t := 133) (by decide)).trans (zif ?_ ?_)
  · exact rn_rv d_H_become_133 rfl
  · refine (rn_ld d_H_become_47 rfl rfl rfl rfl).trans ?_
    refine (rn_gr d_H_become_48 f_0_9 H.c H.r0).trans ?_
    refine (rn_ld d_H_become_51 rfl rfl rfl rfl).trans ?_
    refine (rn_ld d_H_become_52 rfl rfl rfl rfl).trans ?_
    refine (rn_gr d_H_become_53 f_0_9 H1.c H1.r0).trans ?_
    refine (rn_ld d_H_become_56 rfl rfl rfl rfl).trans ?_
    refine (rn_sI d_H_become_57 nb_0_40 (zinv_s l_0_40 (by decide) (Nat.le_of_ble_eq_true rfl) rfl rfl (Nat.le_of_ble_eq_true rfl)) (Nat.le_of_ble_eq_true rfl) (Or.inl rfl)).trans (zbI_congr fun v2 h1 => ?_)
    refine (rn_sV d_H_become_60 nb_0_44 (zinv_s l_0_44 (by decide) (Nat.le_of_ble_eq_true rfl) rfl rfl (Nat.le_of_ble_eq_true rfl)) (Nat.le_of_ble_eq_true rfl) rfl).trans (zbV_congr fun h3 => ?_)
    refine (rn_ld d_H_become_63 rfl rfl rfl rfl).trans ?_
    refine (rn_gr d_H_become_64 f_0_15 H.c H.r1).trans ?_
    refine (rn_ld d_H_become_67 rfl rfl rfl rfl).trans ?_
    refine (rn_ld d_H_become_68 rfl rfl rfl rfl).trans ?_
    refine (rn_gr d_H_become_69 f_0_15 H1.c H1.r1).trans ?_
    refine (rn_ld d_H_become_72 rfl rfl rfl rfl).trans ?_
    refine (rn_sI d_H_become_73 nb_0_40 (zinv_s l_0_40 (by decide) (Nat.le_of_ble_eq_true rfl) rfl rfl (Nat.le_of_ble_eq_true rfl)) (Nat.le_of_ble_eq_true rfl) (Or.inl rfl)).trans (zbI_congr fun v5 h4 => ?_)
    refine (rn_sV d_H_become_76 nb_0_44 (zinv_s l_0_44 (by decide) (Nat.le_of_ble_eq_true rfl) rfl rfl (Nat.le_of_ble_eq_true rfl)) (Nat.le_of_ble_eq_true rfl) rfl).trans (zbV_congr fun h6 => ?_)
    refine (rn_ld d_H_become_79 rfl rfl rfl rfl).trans ?_
    refine (rn_gr d_H_become_80 f_0_18 H.c H.r2).trans ?_
    refine (rn_ld d_H_become_83 rfl rfl rfl rfl).trans ?_
    refine (rn_ld d_H_become_84 rfl rfl rfl rfl).trans ?_
    refine (rn_gr d_H_become_85 f_0_18 H1.c H1.r2).trans ?_
    refine (rn_ld d_H_become_88 rfl rfl rfl rfl).trans ?_
    refine (rn_sI d_H_become_89 nb_0_40 (zinv_s l_0_40 (by decide) (Nat.le_of_ble_eq_true rfl) rfl rfl (Nat.le_of_ble_eq_true rfl)) (Nat.le_of_ble_eq_true rfl) (Or.inl rfl)).trans (zbI_congr fun v8 h7 => ?_)
    refine (rn_sV d_H_become_92 nb_0_44 (zinv_s l_0_44 (by decide) (Nat.le_of_ble_eq_true rfl) rfl rfl (Nat.le_of_ble_eq_true rfl)) (Nat.le_of_ble_eq_true rfl) rfl).trans (zbV_congr fun h9 => ?_)
    refine (rn_ld d_H_become_95 rfl rfl rfl rfl).trans ?_
    refine (rn_gr d_H_become_96 f_0_21 H.c H.r3).trans ?_
    refine (rn_ld d_H_become_99 rfl rfl rfl rfl).trans ?_
    refine (rn_ld d_H_become_100 rfl rfl rfl rfl).trans ?_
    refine (rn_gr d_H_become_101 f_0_21 H1.c H1.r3).trans ?_
    refine (rn_ld d_H_become_104 rfl rfl rfl rfl).trans ?_
    refine (rn_sI d_H_become_105 nb_0_40 (zinv_s l_0_40 (by decide) (Nat.le_of_ble_eq_true rfl) rfl rfl (Nat.le_of_ble_eq_true rfl)) (Nat.le_of_ble_eq_true rfl) (Or.inl rfl)).trans (zbI_congr fun v11 h10 => ?_)
    refine (rn_sV d_H_become_108 nb_0_44 (zinv_s l_0_44 (by decide) (Nat.le_of_ble_eq_true rfl) rfl rfl (Nat.le_of_ble_eq_true rfl)) (Nat.le_of_ble_eq_true rfl) rfl).trans (zbV_congr fun h12 => ?_)
    refine (rn_ld d_H_become_111 rfl rfl rfl rfl).trans ?_
    refine (rn_gr d_H_become_112 f_0_24 H.c H.r4).trans ?_
    refine (rn_ld d_H_become_115 rfl rfl rfl rfl).trans ?_
    refine (rn_ld d_H_become_116 rfl rfl rfl rfl).trans ?_
    refine (rn_gr d_H_become_117 f_0_24 H1.c H1.r4).trans ?_
    refine (rn_ld d_H_become_120 rfl rfl rfl rfl).trans ?_
    refine (rn_sI d_H_become_121 nb_0_40 (zinv_s l_0_40 (by decide) (Nat.le_of_ble_eq_true rfl) rfl rfl (Nat.le_of_ble_eq_true rfl)) (Nat.le_of_ble_eq_true rfl) (Or.inl rfl)).trans (zbI_congr fun v14 h13 => ?_)
    refine (rn_sV d_H_become_124 nb_0_44 (zinv_s l_0_44 (by decide) (Nat.le_of_ble_eq_true rfl) rfl rfl (Nat.le_of_ble_eq_true rfl)) (Nat.le_of_ble_eq_true rfl) rfl).trans (zbV_congr fun h15 => ?_)
    refine (rn_inc d_H_become_127 rfl (c := 1) (by decide) (ls' := [some (.ref a), some (.ref a1), some (.int (x2 + 1))]) rfl).trans ?_
    refine (rn_goto d_H_become_130 (t := 39) (by decide)).trans ?_
    rfl
theorem e_H_become {X : zX} {a : Nat} {a1 : Nat} {h : zH} (H : isH a) (H1 : isH a1) : zcf X m_H_become [.ref a, .ref a1] h = zrn X 1 m_H_become 39 [some (.ref a), some (.ref a1), some (.int 0)] [] ((zup (zup (zup (zup h.1 a 5 (h.1 a1 5)) a 6 ((zup h.1 a 5 (h.1 a1 5)) a1 6)) a 7 ((zup (zup h.1 a 5 (h.1 a1 5)) a 6 ((zup h.1 a 5 (h.1 a1 5)) a1 6)) a1 7)) a 8 ((zup (zup (zup h.1 a 5 (h.1 a1 5)) a 6 ((zup h.1 a 5 (h.1 a1 5)) a1 6)) a 7 ((zup (zup h.1 a 5 (h.1 a1 5)) a 6 ((zup h.1 a 5 (h.1 a1 5)) a1 6)) a1 7)) a1 8)), h.2) := by
  refine (zcf_run (Nat.le_of_ble_eq_true rfl)).trans ?_
  show zrn X 1 m_H_become 0 [some (.ref a), some (.ref a1), none] [] h = _
  refine (rn_ld d_H_become_0 rfl rfl rfl rfl).trans ?_
  refine (rn_nn d_H_become_1 (t := 5) (by decide)).trans ?_
  refine (rn_ld d_H_become_5 rfl rfl rfl rfl).trans ?_
  refine (rn_ld d_H_become_6 rfl rfl rfl rfl).trans ?_
  refine (rn_gi d_H_become_7 f_0_27 H1.c).trans ?_
  refine (rn_pi d_H_become_10 f_0_27 H.c).trans ?_
  refine (rn_ld d_H_become_13 rfl rfl rfl rfl).trans ?_
  refine (rn_ld d_H_become_14 rfl rfl rfl rfl).trans ?_
  refine (rn_gi d_H_become_15 f_0_31 H1.c).trans ?_
  refine (rn_pi d_H_become_18 f_0_31 H.c).trans ?_
  refine (rn_ld d_H_become_21 rfl rfl rfl rfl).trans ?_
  refine (rn_ld d_H_become_22 rfl rfl rfl rfl).trans ?_
  refine (rn_gi d_H_become_23 f_0_34 H1.c).trans ?_
  refine (rn_pi d_H_become_26 f_0_34 H.c).trans ?_
  refine (rn_ld d_H_become_29 rfl rfl rfl rfl).trans ?_
  refine (rn_ld d_H_become_30 rfl rfl rfl rfl).trans ?_
  refine (rn_gi d_H_become_31 f_0_37 H1.c).trans ?_
  refine (rn_pi d_H_become_34 f_0_37 H.c).trans ?_
  refine (rn_push d_H_become_37 zcs_iconst_0).trans ?_
  refine (rn_st d_H_become_38 rfl rfl rfl (by decide) rfl (Nat.le_of_ble_eq_true rfl) (ls' := [some (.ref a), some (.ref a1), some (.int 0)]) rfl).trans ?_
  rfl
theorem e_T_beginsStatement {X : zX} {x1 : Int32} {h : zH} : zcf X m_T_beginsStatement [.ref 71, .int x1] h = (zbI (zcf X m_X_at [.ref 72, .int x1] h) fun v2 h1 => (zbI (zcf X m_T_digitsBehind [.int v2] h1) fun v4 h3 => (if v4 ≤ 0 then (some (some (.int 0), h3)) else (some (some (.int 1), h3))))) := by
  refine (zcf_run (Nat.le_of_ble_eq_true rfl)).trans ?_
  show zrn X 1 m_T_beginsStatement 0 [some (.ref 71), some (.int x1)] [] h = _
  refine (rn_ld d_T_beginsStatement_0 rfl rfl rfl rfl).trans ?_
  refine (rn_gr d_T_beginsStatement_1 f_2_9 zc_71 zr_71_0).trans ?_
  refine (rn_ld d_T_beginsStatement_4 rfl rfl rfl rfl).trans ?_
  refine (rn_sI d_T_beginsStatement_5 nb_2_23 (zinv_s l_2_23 (by decide) (Nat.le_of_ble_eq_true rfl) rfl rfl (Nat.le_of_ble_eq_true rfl)) (Nat.le_of_ble_eq_true rfl) (Or.inl rfl)).trans (zbI_congr fun v2 h1 => ?_)
  refine (rn_sI d_T_beginsStatement_8 nb_2_27 (zinv_s l_2_27 (by decide) (Nat.le_of_ble_eq_true rfl) rfl rfl (Nat.le_of_ble_eq_true rfl)) (Nat.le_of_ble_eq_true rfl) (Or.inl rfl)).trans (zbI_congr fun v4 h3 => ?_)
  refine (rn_if_le d_T_beginsStatement_11 (t := 18) (by decide)).trans (zif ?_ ?_)
  · refine (rn_push d_T_beginsStatement_18 zcs_iconst_0).trans ?_
    exact rn_rz d_T_beginsStatement_19 rfl (by decide)
  · refine (rn_push d_T_beginsStatement_14 zcs_iconst_1).trans ?_
    refine (rn_goto d_T_beginsStatement_15 (t := 19) (by decide)).trans ?_
    exact rn_rz d_T_beginsStatement_19 rfl (by decide)
theorem e_T_comesTo {X : zX} {a1 : Nat} {x2 : Int32} {h : zH} (H1 : isH a1) : zcf X m_T_comesTo [.ref 71, .ref a1, .int x2] h = (zbI (zcf X m_T_digit [.ref 71, .int (x2 + 1)] h) fun v2 h1 => (zbI (zcf X m_X_at [.ref 72, .int x2] h1) fun v4 h3 => (if v4 = 99 then (zbI (zcf X m_T_number [.ref 71, .int (x2 + 2)] h3) fun v7 h6 => (zbI (zcf X m_T_changesCell [.ref a1, .int v2, .int v7] h6) fun v9 h8 => (if v9 = 0 ∨ v9 = 1 then (some (some (.int v9), h8)) else none))) else (if v4 = 102 then (zbI (zcf X m_T_digit [.ref 71, .int (x2 + 2)] h3) fun v12 h11 => (zbI (zcf X m_T_facesSo [.ref a1, .int v2, .int v12] h11) fun v14 h13 => (if v14 = 0 ∨ v14 = 1 then (some (some (.int v14), h13)) else none))) else (if v4 = 112 then (zbI (zcf X m_T_digit [.ref 71, .int (x2 + 2)] h3) fun v17 h16 => (zbI (zcf X m_T_number [.ref 71, .int (x2 + 3)] h16) fun v19 h18 => (zbI (zcf X m_T_digit [.ref 71, .int (x2 + 5)] h18) fun v21 h20 => (zbI (zcf X m_T_joins [.ref a1, .int v2, .int v17, .int v19, .int v21] h20) fun v23 h22 => (if v23 = 0 ∨ v23 = 1 then (some (some (.int v23), h22)) else none))))) else (zbI (zcf X m_T_number [.ref 71, .int (x2 + 1)] h3) fun v25 h24 => (if v25 < 1 then (some (some (.int 0), h24)) else (zbI (zcf X m_H_hasRoomFor [.ref a1, .int v25] h24) fun v27 h26 => (if v27 = 0 then (some (some (.int 0), h26)) else (zbV (zcf X m_H_pass [.ref a1, .int v25] h26) fun h28 => (some (some (.int 1), h28)))))))))))) := by
  refine (zcf_run (Nat.le_of_ble_eq_true rfl)).trans ?_
  show zrn X 6 m_T_comesTo 0 [some (.ref 71), some (.ref a1), some (.int x2), none, none] [] h = _
  refine (rn_ld d_T_comesTo_0 rfl rfl rfl rfl).trans ?_
  refine (rn_ld d_T_comesTo_1 rfl rfl rfl rfl).trans ?_
  refine (rn_push d_T_comesTo_2 zcs_iconst_1).trans ?_
  refine (rn_a2 d_T_comesTo_3 rfl).trans ?_
  refine (rn_vI d_T_comesTo_4 (zinv_v l_2_31 (by decide) (Nat.le_of_ble_eq_true rfl) rfl rfl zc_71 (Nat.le_of_ble_eq_true rfl)) (Nat.le_of_ble_eq_true rfl) (Or.inl rfl)).trans (zbI_congr fun v2 h1 => ?_)
  refine (rn_st d_T_comesTo_7 rfl rfl rfl (by decide) rfl (Nat.le_of_ble_eq_true rfl) (ls' := [some (.ref 71), some (.ref a1), some (.int x2), some (.int v2), none]) rfl).trans ?_
  refine (rn_ld d_T_comesTo_8 rfl rfl rfl rfl).trans ?_
  refine (rn_gr d_T_comesTo_9 f_2_9 zc_71 zr_71_0).trans ?_
  refine (rn_ld d_T_comesTo_12 rfl rfl rfl rfl).trans ?_
  refine (rn_sI d_T_comesTo_13 nb_2_23 (zinv_s l_2_23 (by decide) (Nat.le_of_ble_eq_true rfl) rfl rfl (Nat.le_of_ble_eq_true rfl)) (Nat.le_of_ble_eq_true rfl) (Or.inl rfl)).trans (zbI_congr fun v4 h3 => ?_)
  refine zite (fun q5 => ?_) (fun q5 => ?_)
  · refine (rn_lsw d_T_comesTo_16 (t := 92) (by rw [q5]; decide +kernel)).trans ?_
    refine (rn_ld d_T_comesTo_92 rfl rfl rfl rfl).trans ?_
    refine (rn_ld d_T_comesTo_93 rfl rfl rfl rfl).trans ?_
    refine (rn_ld d_T_comesTo_94 rfl rfl rfl rfl).trans ?_
    refine (rn_ld d_T_comesTo_95 rfl rfl rfl rfl).trans ?_
    refine (rn_push d_T_comesTo_96 zcs_iconst_2).trans ?_
    refine (rn_a2 d_T_comesTo_97 rfl).trans ?_
    refine (rn_vI d_T_comesTo_98 (zinv_v l_2_34 (by decide) (Nat.le_of_ble_eq_true rfl) rfl rfl zc_71 (Nat.le_of_ble_eq_true rfl)) (Nat.le_of_ble_eq_true rfl) (Or.inl rfl)).trans (zbI_congr fun v7 h6 => ?_)
    refine (rn_sI d_T_comesTo_101 nb_2_45 (zinv_s l_2_45 (by decide) (Nat.le_of_ble_eq_true rfl) rfl rfl (Nat.le_of_ble_eq_true rfl)) (Nat.le_of_ble_eq_true rfl) (Or.inr rfl)).trans (zbI_congr fun v9 h8 => ?_)
    exact rn_rzg d_T_comesTo_104 rfl
  · refine zite (fun q10 => ?_) (fun q10 => ?_)
    · refine (rn_lsw d_T_comesTo_16 (t := 79) (by rw [q10]; decide +kernel)).trans ?_
      refine (rn_ld d_T_comesTo_79 rfl rfl rfl rfl).trans ?_
      refine (rn_ld d_T_comesTo_80 rfl rfl rfl rfl).trans ?_
      refine (rn_ld d_T_comesTo_81 rfl rfl rfl rfl).trans ?_
      refine (rn_ld d_T_comesTo_82 rfl rfl rfl rfl).trans ?_
      refine (rn_push d_T_comesTo_83 zcs_iconst_2).trans ?_
      refine (rn_a2 d_T_comesTo_84 rfl).trans ?_
      refine (rn_vI d_T_comesTo_85 (zinv_v l_2_31 (by decide) (Nat.le_of_ble_eq_true rfl) rfl rfl zc_71 (Nat.le_of_ble_eq_true rfl)) (Nat.le_of_ble_eq_true rfl) (Or.inl rfl)).trans (zbI_congr fun v12 h11 => ?_)
      refine (rn_sI d_T_comesTo_88 nb_2_41 (zinv_s l_2_41 (by decide) (Nat.le_of_ble_eq_true rfl) rfl rfl (Nat.le_of_ble_eq_true rfl)) (Nat.le_of_ble_eq_true rfl) (Or.inr rfl)).trans (zbI_congr fun v14 h13 => ?_)
      exact rn_rzg d_T_comesTo_91 rfl
    · refine zite (fun q15 => ?_) (fun q15 => ?_)
      · refine (rn_lsw d_T_comesTo_16 (t := 52) (by rw [q15]; decide +kernel)).trans ?_
        refine (rn_ld d_T_comesTo_52 rfl rfl rfl rfl).trans ?_
        refine (rn_ld d_T_comesTo_53 rfl rfl rfl rfl).trans ?_
        refine (rn_ld d_T_comesTo_54 rfl rfl rfl rfl).trans ?_
        refine (rn_ld d_T_comesTo_55 rfl rfl rfl rfl).trans ?_
        refine (rn_push d_T_comesTo_56 zcs_iconst_2).trans ?_
        refine (rn_a2 d_T_comesTo_57 rfl).trans ?_
        refine (rn_vI d_T_comesTo_58 (zinv_v l_2_31 (by decide) (Nat.le_of_ble_eq_true rfl) rfl rfl zc_71 (Nat.le_of_ble_eq_true rfl)) (Nat.le_of_ble_eq_true rfl) (Or.inl rfl)).trans (zbI_congr fun v17 h16 => ?_)
        refine (rn_ld d_T_comesTo_61 rfl rfl rfl rfl).trans ?_
        refine (rn_ld d_T_comesTo_62 rfl rfl rfl rfl).trans ?_
        refine (rn_push d_T_comesTo_63 zcs_iconst_3).trans ?_
        refine (rn_a2 d_T_comesTo_64 rfl).trans ?_
        refine (rn_vI d_T_comesTo_65 (zinv_v l_2_34 (by decide) (Nat.le_of_ble_eq_true rfl) rfl rfl zc_71 (Nat.le_of_ble_eq_true rfl)) (Nat.le_of_ble_eq_true rfl) (Or.inl rfl)).trans (zbI_congr fun v19 h18 => ?_)
        refine (rn_ld d_T_comesTo_68 rfl rfl rfl rfl).trans ?_
        refine (rn_ld d_T_comesTo_69 rfl rfl rfl rfl).trans ?_
        refine (rn_push d_T_comesTo_70 zcs_iconst_5).trans ?_
        refine (rn_a2 d_T_comesTo_71 rfl).trans ?_
        refine (rn_vI d_T_comesTo_72 (zinv_v l_2_31 (by decide) (Nat.le_of_ble_eq_true rfl) rfl rfl zc_71 (Nat.le_of_ble_eq_true rfl)) (Nat.le_of_ble_eq_true rfl) (Or.inl rfl)).trans (zbI_congr fun v21 h20 => ?_)
        refine (rn_sI d_T_comesTo_75 nb_2_37 (zinv_s l_2_37 (by decide) (Nat.le_of_ble_eq_true rfl) rfl rfl (Nat.le_of_ble_eq_true rfl)) (Nat.le_of_ble_eq_true rfl) (Or.inr rfl)).trans (zbI_congr fun v23 h22 => ?_)
        exact rn_rzg d_T_comesTo_78 rfl
      · refine (rn_lsw d_T_comesTo_16 (t := 105) (by unfold zlw; rw [if_pos (by decide +kernel)]; show ztg _ (Op.lookupswitch.offset [(99, 76), (102, 63), (112, 36)] 89 _) = _; rw [lv_osw (a := 99) (k := 99) q5 (by decide), lv_osw (a := 102) (k := 102) q10 (by decide), lv_osw (a := 112) (k := 112) q15 (by decide)]; show ztg 16 89 = _; decide)).trans ?_
        refine (rn_ld d_T_comesTo_105 rfl rfl rfl rfl).trans ?_
        refine (rn_ld d_T_comesTo_106 rfl rfl rfl rfl).trans ?_
        refine (rn_push d_T_comesTo_107 zcs_iconst_1).trans ?_
        refine (rn_a2 d_T_comesTo_108 rfl).trans ?_
        refine (rn_vI d_T_comesTo_109 (zinv_v l_2_34 (by decide) (Nat.le_of_ble_eq_true rfl) rfl rfl zc_71 (Nat.le_of_ble_eq_true rfl)) (Nat.le_of_ble_eq_true rfl) (Or.inl rfl)).trans (zbI_congr fun v25 h24 => ?_)
        refine (rn_st d_T_comesTo_112 rfl rfl rfl (by decide) rfl (Nat.le_of_ble_eq_true rfl) (ls' := [some (.ref 71), some (.ref a1), some (.int x2), some (.int v2), some (.int v25)]) rfl).trans ?_
        refine (rn_ld d_T_comesTo_114 rfl rfl rfl rfl).trans ?_
        refine (rn_push d_T_comesTo_116 zcs_iconst_1).trans ?_
        refine (rn_ic_lt d_T_comesTo_117 (t := 129) (by decide)).trans (zif ?_ ?_)
        · refine (rn_push d_T_comesTo_129 zcs_iconst_0).trans ?_
          exact rn_rz d_T_comesTo_130 rfl (by decide)
        · refine (rn_ld d_T_comesTo_120 rfl rfl rfl rfl).trans ?_
          refine (rn_ld d_T_comesTo_121 rfl rfl rfl rfl).trans ?_
          refine (rn_vI d_T_comesTo_123 (zinv_v l_2_48 (by decide) (Nat.le_of_ble_eq_true rfl) rfl rfl H1.c (Nat.le_of_ble_eq_true rfl)) (Nat.le_of_ble_eq_true rfl) (Or.inr rfl)).trans (zbI_congr fun v27 h26 => ?_)
          refine (rn_if_ne d_T_comesTo_126 (t := 131) (by decide)).trans (zif ?_ ?_)
          · refine (rn_push d_T_comesTo_129 zcs_iconst_0).trans ?_
            exact rn_rz d_T_comesTo_130 rfl (by decide)
          · refine (rn_ld d_T_comesTo_131 rfl rfl rfl rfl).trans ?_
            refine (rn_ld d_T_comesTo_132 rfl rfl rfl rfl).trans ?_
            refine (rn_vV d_T_comesTo_134 (zinv_v l_2_54 (by decide) (Nat.le_of_ble_eq_true rfl) rfl rfl H1.c (Nat.le_of_ble_eq_true rfl)) (Nat.le_of_ble_eq_true rfl) rfl).trans (zbV_congr fun h28 => ?_)
            refine (rn_push d_T_comesTo_137 zcs_iconst_1).trans ?_
            exact rn_rz d_T_comesTo_138 rfl (by decide)
theorem e_T_digit {X : zX} {x1 : Int32} {h : zH} : zcf X m_T_digit [.ref 71, .int x1] h = (zbI (zcf X m_X_at [.ref 72, .int x1] h) fun v2 h1 => (some (some (.int (v2 - 48)), h1))) := by
  refine (zcf_run (Nat.le_of_ble_eq_true rfl)).trans ?_
  show zrn X 1 m_T_digit 0 [some (.ref 71), some (.int x1)] [] h = _
  refine (rn_ld d_T_digit_0 rfl rfl rfl rfl).trans ?_
  refine (rn_gr d_T_digit_1 f_2_9 zc_71 zr_71_0).trans ?_
  refine (rn_ld d_T_digit_4 rfl rfl rfl rfl).trans ?_
  refine (rn_sI d_T_digit_5 nb_2_23 (zinv_s l_2_23 (by decide) (Nat.le_of_ble_eq_true rfl) rfl rfl (Nat.le_of_ble_eq_true rfl)) (Nat.le_of_ble_eq_true rfl) (Or.inl rfl)).trans (zbI_congr fun v2 h1 => ?_)
  refine (rn_push d_T_digit_8 zcs_bipush_48).trans ?_
  refine (rn_a2 d_T_digit_10 rfl).trans ?_
  exact rn_ri d_T_digit_11 rfl
theorem e_T_number {X : zX} {x1 : Int32} {h : zH} : zcf X m_T_number [.ref 71, .int x1] h = (zbI (zcf X m_T_digit [.ref 71, .int x1] h) fun v2 h1 => (zbI (zcf X m_T_digit [.ref 71, .int (x1 + 1)] h1) fun v4 h3 => (some (some (.int ((10 * v2) + v4)), h3)))) := by
  refine (zcf_run (Nat.le_of_ble_eq_true rfl)).trans ?_
  show zrn X 2 m_T_number 0 [some (.ref 71), some (.int x1)] [] h = _
  refine (rn_push d_T_number_0 zcs_bipush_10).trans ?_
  refine (rn_ld d_T_number_2 rfl rfl rfl rfl).trans ?_
  refine (rn_ld d_T_number_3 rfl rfl rfl rfl).trans ?_
  refine (rn_vI d_T_number_4 (zinv_v l_2_31 (by decide) (Nat.le_of_ble_eq_true rfl) rfl rfl zc_71 (Nat.le_of_ble_eq_true rfl)) (Nat.le_of_ble_eq_true rfl) (Or.inl rfl)).trans (zbI_congr fun v2 h1 => ?_)
  refine (rn_a2 d_T_number_7 rfl).trans ?_
  refine (rn_ld d_T_number_8 rfl rfl rfl rfl).trans ?_
  refine (rn_ld d_T_number_9 rfl rfl rfl rfl).trans ?_
  refine (rn_push d_T_number_10 zcs_iconst_1).trans ?_
  refine (rn_a2 d_T_number_11 rfl).trans ?_
  refine (rn_vI d_T_number_12 (zinv_v l_2_31 (by decide) (Nat.le_of_ble_eq_true rfl) rfl rfl zc_71 (Nat.le_of_ble_eq_true rfl)) (Nat.le_of_ble_eq_true rfl) (Or.inl rfl)).trans (zbI_congr fun v4 h3 => ?_)
  refine (rn_a2 d_T_number_15 rfl).trans ?_
  exact rn_ri d_T_number_16 rfl
theorem e_T_joins {X : zX} {a0 : Nat} {x1 : Int32} {x2 : Int32} {x3 : Int32} {x4 : Int32} {h : zH} (H0 : isH a0) : zcf X m_T_joins [.ref a0, .int x1, .int x2, .int x3, .int x4] h = (zbI (zcf X m_X_isKind [.int x1] h) fun v2 h1 => (if v2 = 0 then (some (some (.int 0), h1)) else (zbI (zcf X m_X_isCell [.int x3] h1) fun v4 h3 => (if v4 = 0 then (some (some (.int 0), h3)) else (zbI (zcf X m_X_isWay [.int x4] h3) fun v6 h5 => (if v6 = 0 then (some (some (.int 0), h5)) else (if 6 ≤ (h5.1 a0 5) then (some (some (.int 0), h5)) else (zbI (zcf X m_H_isFree [.ref a0, .int x3] h5) fun v8 h7 => (if v8 = 0 then (some (some (.int 0), h7)) else (zbI (zcf X m_H_join [.ref a0, .int x1, .int x2, .int x3, .int x4] h7) fun v10 h9 => (some (some (.int 1), h9)))))))))))) := by
  refine (zcf_run (Nat.le_of_ble_eq_true rfl)).trans ?_
  show zrn X 2 m_T_joins 0 [some (.ref a0), some (.int x1), some (.int x2), some (.int x3), some (.int x4)] [] h = _
  refine (rn_ld d_T_joins_0 rfl rfl rfl rfl).trans ?_
  refine (rn_sI d_T_joins_1 nb_2_58 (zinv_s l_2_58 (by decide) (Nat.le_of_ble_eq_true rfl) rfl rfl (Nat.le_of_ble_eq_true rfl)) (Nat.le_of_ble_eq_true rfl) (Or.inr rfl)).trans (zbI_congr fun v2 h1 => ?_)
  refine (rn_if_eq d_T_joins_4 (t := 39) (by decide)).trans (zif ?_ ?_)
  · refine (rn_push d_T_joins_39 zcs_iconst_0).trans ?_
    exact rn_rz d_T_joins_40 rfl (by decide)
  · refine (rn_ld d_T_joins_7 rfl rfl rfl rfl).trans ?_
    refine (rn_sI d_T_joins_8 nb_2_61 (zinv_s l_2_61 (by decide) (Nat.le_of_ble_eq_true rfl) rfl rfl (Nat.le_of_ble_eq_true rfl)) (Nat.le_of_ble_eq_true rfl) (Or.inr rfl)).trans (zbI_congr fun v4 h3 => ?_)
    refine (rn_if_eq d_T_joins_11 (t := 39) (by decide)).trans (zif ?_ ?_)
    · refine (rn_push d_T_joins_39 zcs_iconst_0).trans ?_
      exact rn_rz d_T_joins_40 rfl (by decide)
    · refine (rn_ld d_T_joins_14 rfl rfl rfl rfl).trans ?_
      refine (rn_sI d_T_joins_16 nb_2_64 (zinv_s l_2_64 (by decide) (Nat.le_of_ble_eq_true rfl) rfl rfl (Nat.le_of_ble_eq_true rfl)) (Nat.le_of_ble_eq_true rfl) (Or.inr rfl)).trans (zbI_congr fun v6 h5 => ?_)
      refine (rn_if_eq d_T_joins_19 (t := 39) (by decide)).trans (zif ?_ ?_)
      · refine (rn_push d_T_joins_39 zcs_iconst_0).trans ?_
        exact rn_rz d_T_joins_40 rfl (by decide)
      · refine (rn_ld d_T_joins_22 rfl rfl rfl rfl).trans ?_
        refine (rn_gi d_T_joins_23 f_2_67 H0.c).trans ?_
        refine (rn_push d_T_joins_26 zcs_bipush_6).trans ?_
        refine (rn_ic_ge d_T_joins_28 (t := 39) (by decide)).trans (zif ?_ ?_)
        · refine (rn_push d_T_joins_39 zcs_iconst_0).trans ?_
          exact rn_rz d_T_joins_40 rfl (by decide)
        · refine (rn_ld d_T_joins_31 rfl rfl rfl rfl).trans ?_
          refine (rn_ld d_T_joins_32 rfl rfl rfl rfl).trans ?_
          refine (rn_vI d_T_joins_33 (zinv_v l_2_68 (by decide) (Nat.le_of_ble_eq_true rfl) rfl rfl H0.c (Nat.le_of_ble_eq_true rfl)) (Nat.le_of_ble_eq_true rfl) (Or.inr rfl)).trans (zbI_congr fun v8 h7 => ?_)
          refine (rn_if_ne d_T_joins_36 (t := 41) (by decide)).trans (zif ?_ ?_)
          · refine (rn_push d_T_joins_39 zcs_iconst_0).trans ?_
            exact rn_rz d_T_joins_40 rfl (by decide)
          · refine (rn_ld d_T_joins_41 rfl rfl rfl rfl).trans ?_
            refine (rn_ld d_T_joins_42 rfl rfl rfl rfl).trans ?_
            refine (rn_ld d_T_joins_43 rfl rfl rfl rfl).trans ?_
            refine (rn_ld d_T_joins_44 rfl rfl rfl rfl).trans ?_
            refine (rn_ld d_T_joins_45 rfl rfl rfl rfl).trans ?_
            refine (rn_vI d_T_joins_47 (zinv_v l_2_71 (by decide) (Nat.le_of_ble_eq_true rfl) rfl rfl H0.c (Nat.le_of_ble_eq_true rfl)) (Nat.le_of_ble_eq_true rfl) (Or.inl rfl)).trans (zbI_congr fun v10 h9 => ?_)
            refine (rn_pop d_T_joins_50 rfl).trans ?_
            refine (rn_push d_T_joins_51 zcs_iconst_1).trans ?_
            exact rn_rz d_T_joins_52 rfl (by decide)
theorem e_H_isFree {X : zX} {a : Nat} {x1 : Int32} {h : zH} (H : isH a) : zcf X m_H_isFree [.ref a, .int x1] h = (zbI (zcf X m_H_whoIsAt [.ref a, .int x1] h) fun v2 h1 => (if v2 = (-9) then (some (some (.int 1), h1)) else (some (some (.int 0), h1)))) := by
  refine (zcf_run (Nat.le_of_ble_eq_true rfl)).trans ?_
  show zrn X 1 m_H_isFree 0 [some (.ref a), some (.int x1)] [] h = _
  refine (rn_ld d_H_isFree_0 rfl rfl rfl rfl).trans ?_
  refine (rn_ld d_H_isFree_1 rfl rfl rfl rfl).trans ?_
  refine (rn_vI d_H_isFree_2 (zinv_v l_0_59 (by decide) (Nat.le_of_ble_eq_true rfl) rfl rfl H.c (Nat.le_of_ble_eq_true rfl)) (Nat.le_of_ble_eq_true rfl) (Or.inl rfl)).trans (zbI_congr fun v2 h1 => ?_)
  refine (rn_push d_H_isFree_5 zcs_bipush_m9).trans ?_
  refine (rn_ic_ne d_H_isFree_7 (t := 14) (by decide)).trans (zif ?_ ?_)
  · refine (rn_push d_H_isFree_10 zcs_iconst_1).trans ?_
    refine (rn_goto d_H_isFree_11 (t := 15) (by decide)).trans ?_
    exact rn_rz d_H_isFree_15 rfl (by decide)
  · refine (rn_push d_H_isFree_14 zcs_iconst_0).trans ?_
    exact rn_rz d_H_isFree_15 rfl (by decide)
theorem b_H_whoIsAt_2 {X : zX} {a : Nat} {x1 : Int32} {x2 : Int32} {h : zH} (H : isH a) : zrn X 0 m_H_whoIsAt 2 [some (.ref a), some (.int x1), some (.int x2)] [] h = (if (h.1 a 5) ≤ x2 then (some (some (.int (-9)), h)) else (if 6 ≤ x2 then (some (some (.int (-9)), h)) else (if zin x2 6 = true then (if (h.1 (a + 3) (Int32.toNatClampNeg x2)) = x1 then (some (some (.int x2), h)) else zrn X 0 m_H_whoIsAt 2 [some (.ref a), some (.int x1), some (.int (x2 + 1))] [] h) else none))) := by
  refine (rn_ld d_H_whoIsAt_2 rfl rfl rfl rfl).trans ?_
  refine (rn_ld d_H_whoIsAt_3 rfl rfl rfl rfl).trans ?_
  refine (rn_gi d_H_whoIsAt_4 f_0_27 H.c).trans ?_
  refine (rn_ic_ge d_H_whoIsAt_7 (t := 37) (by decide)).trans (zif ?_ ?_)
  · refine (rn_push d_H_whoIsAt_37 zcs_bipush_m9).trans ?_
    exact rn_ri d_H_whoIsAt_39 rfl
  · refine (rn_ld d_H_whoIsAt_10 rfl rfl rfl rfl).trans ?_
    refine (rn_ld d_H_whoIsAt_11 rfl rfl rfl rfl).trans ?_
    refine (rn_gr d_H_whoIsAt_12 f_0_18 H.c H.r2).trans ?_
    refine (rn_len d_H_whoIsAt_15 H.k2 (by decide)).trans ?_
    refine (rn_ic_ge d_H_whoIsAt_16 (t := 37) (by decide)).trans (zif ?_ ?_)
    · refine (rn_push d_H_whoIsAt_37 zcs_bipush_m9).trans ?_
      exact rn_ri d_H_whoIsAt_39 rfl
    · refine (rn_ld d_H_whoIsAt_19 rfl rfl rfl rfl).trans ?_
      refine (rn_gr d_H_whoIsAt_20 f_0_18 H.c H.r2).trans ?_
      refine (rn_ld d_H_whoIsAt_23 rfl rfl rfl rfl).trans ?_
      refine (rn_ial d_H_whoIsAt_24 (Nat.succ_pos _) H.k2).trans (zif ?_ rfl)
      refine (rn_ld d_H_whoIsAt_25 rfl rfl rfl rfl).trans ?_
      refine (rn_ic_ne d_H_whoIsAt_26 (t := 31) (by decide)).trans (zif ?_ ?_)
      · refine (rn_ld d_H_whoIsAt_29 rfl rfl rfl rfl).trans ?_
        exact rn_ri d_H_whoIsAt_30 rfl
      · refine (rn_inc d_H_whoIsAt_31 rfl (c := 1) (by decide) (ls' := [some (.ref a), some (.int x1), some (.int (x2 + 1))]) rfl).trans ?_
        refine (rn_goto d_H_whoIsAt_34 (t := 2) (by decide)).trans ?_
        rfl
theorem e_H_whoIsAt {X : zX} {a : Nat} {x1 : Int32} {h : zH} (H : isH a) : zcf X m_H_whoIsAt [.ref a, .int x1] h = zrn X 0 m_H_whoIsAt 2 [some (.ref a), some (.int x1), some (.int 0)] [] h := by
  refine (zcf_run (Nat.le_of_ble_eq_true rfl)).trans ?_
  show zrn X 0 m_H_whoIsAt 0 [some (.ref a), some (.int x1), none] [] h = _
  refine (rn_push d_H_whoIsAt_0 zcs_iconst_0).trans ?_
  refine (rn_st d_H_whoIsAt_1 rfl rfl rfl (by decide) rfl (Nat.le_of_ble_eq_true rfl) (ls' := [some (.ref a), some (.int x1), some (.int 0)]) rfl).trans ?_
  rfl
theorem e_H_join {X : zX} {a : Nat} {x1 : Int32} {x2 : Int32} {x3 : Int32} {x4 : Int32} {h : zH} (H : isH a) : zcf X m_H_join [.ref a, .int x1, .int x2, .int x3, .int x4] h = (if (h.1 a 5) < 6 then (zbV (zcf X m_X_put [.ref (a + 1), .int (h.1 a 5), .int x1] h) fun h1 => (zbV (zcf X m_X_put [.ref (a + 2), .int (h.1 a 5), .int x2] h1) fun h2 => (zbV (zcf X m_X_put [.ref (a + 3), .int (h.1 a 5), .int x3] h2) fun h3 => (zbV (zcf X m_X_put [.ref (a + 4), .int (h.1 a 5), .int x4] h3) fun h4 => (zbV (zcf X m_X_put [.ref (a + 5), .int (h.1 a 5), .int 0] h4) fun h5 => (some (some (.int (h.1 a 5)), ((zup h5.1 a 5 ((h5.1 a 5) + 1)), h5.2)))))))) else (some (some (.int (-9)), h))) := by
  refine (zcf_run (Nat.le_of_ble_eq_true rfl)).trans ?_
  show zrn X 1 m_H_join 0 [some (.ref a), some (.int x1), some (.int x2), some (.int x3), some (.int x4), none] [] h = _
  refine (rn_ld d_H_join_0 rfl rfl rfl rfl).trans ?_
  refine (rn_gi d_H_join_1 f_0_27 H.c).trans ?_
  refine (rn_push d_H_join_4 zcs_bipush_6).trans ?_
  refine (rn_ic_lt d_H_join_6 (t := 12) (by decide)).trans (zif ?_ ?_)
  · refine (rn_ld d_H_join_12 rfl rfl rfl rfl).trans ?_
    refine (rn_gi d_H_join_13 f_0_27 H.c).trans ?_
    refine (rn_st d_H_join_16 rfl rfl rfl (by decide) rfl (Nat.le_of_ble_eq_true rfl) (ls' := [some (.ref a), some (.int x1), some (.int x2), some (.int x3), some (.int x4), some (.int (h.1 a 5))]) rfl).trans ?_
    refine (rn_ld d_H_join_18 rfl rfl rfl rfl).trans ?_
    refine (rn_gr d_H_join_19 f_0_9 H.c H.r0).trans ?_
    refine (rn_ld d_H_join_22 rfl rfl rfl rfl).trans ?_
    refine (rn_ld d_H_join_24 rfl rfl rfl rfl).trans ?_
    refine (rn_sV d_H_join_25 nb_0_44 (zinv_s l_0_44 (by decide) (Nat.le_of_ble_eq_true rfl) rfl rfl (Nat.le_of_ble_eq_true rfl)) (Nat.le_of_ble_eq_true rfl) rfl).trans (zbV_congr fun h1 => ?_)
    refine (rn_ld d_H_join_28 rfl rfl rfl rfl).trans ?_
    refine (rn_gr d_H_join_29 f_0_15 H.c H.r1).trans ?_
    refine (rn_ld d_H_join_32 rfl rfl rfl rfl).trans ?_
    refine (rn_ld d_H_join_34 rfl rfl rfl rfl).trans ?_
    refine (rn_sV d_H_join_35 nb_0_44 (zinv_s l_0_44 (by decide) (Nat.le_of_ble_eq_true rfl) rfl rfl (Nat.le_of_ble_eq_true rfl)) (Nat.le_of_ble_eq_true rfl) rfl).trans (zbV_congr fun h2 => ?_)
    refine (rn_ld d_H_join_38 rfl rfl rfl rfl).trans ?_
    refine (rn_gr d_H_join_39 f_0_18 H.c H.r2).trans ?_
    refine (rn_ld d_H_join_42 rfl rfl rfl rfl).trans ?_
    refine (rn_ld d_H_join_44 rfl rfl rfl rfl).trans ?_
    refine (rn_sV d_H_join_45 nb_0_44 (zinv_s l_0_44 (by decide) (Nat.le_of_ble_eq_true rfl) rfl rfl (Nat.le_of_ble_eq_true rfl)) (Nat.le_of_ble_eq_true rfl) rfl).trans (zbV_congr fun h3 => ?_)
    refine (rn_ld d_H_join_48 rfl rfl rfl rfl).trans ?_
    refine (rn_gr d_H_join_49 f_0_21 H.c H.r3).trans ?_
    refine (rn_ld d_H_join_52 rfl rfl rfl rfl).trans ?_
    refine (rn_ld d_H_join_54 rfl rfl rfl rfl).trans ?_
    refine (rn_sV d_H_join_56 nb_0_44 (zinv_s l_0_44 (by decide) (Nat.le_of_ble_eq_true rfl) rfl rfl (Nat.le_of_ble_eq_true rfl)) (Nat.le_of_ble_eq_true rfl) rfl).trans (zbV_congr fun h4 => ?_)
    refine (rn_ld d_H_join_59 rfl rfl rfl rfl).trans ?_
    refine (rn_gr d_H_join_60 f_0_24 H.c H.r4).trans ?_
    refine (rn_ld d_H_join_63 rfl rfl rfl rfl).trans ?_
    refine (rn_push d_H_join_65 zcs_iconst_0).trans ?_
    refine (rn_sV d_H_join_66 nb_0_44 (zinv_s l_0_44 (by decide) (Nat.le_of_ble_eq_true rfl) rfl rfl (Nat.le_of_ble_eq_true rfl)) (Nat.le_of_ble_eq_true rfl) rfl).trans (zbV_congr fun h5 => ?_)
    refine (rn_ld d_H_join_69 rfl rfl rfl rfl).trans ?_
    refine (rn_dup d_H_join_70 rfl).trans ?_
    refine (rn_gi d_H_join_71 f_0_27 H.c).trans ?_
    refine (rn_push d_H_join_74 zcs_iconst_1).trans ?_
    refine (rn_a2 d_H_join_75 rfl).trans ?_
    refine (rn_pi d_H_join_76 f_0_27 H.c).trans ?_
    refine (rn_ld d_H_join_79 rfl rfl rfl rfl).trans ?_
    exact rn_ri d_H_join_81 rfl
  · refine (rn_push d_H_join_9 zcs_bipush_m9).trans ?_
    exact rn_ri d_H_join_11 rfl
theorem e_T_facesSo {X : zX} {a0 : Nat} {x1 : Int32} {x2 : Int32} {h : zH} (H0 : isH a0) : zcf X m_T_facesSo [.ref a0, .int x1, .int x2] h = (zbI (zcf X m_H_has [.ref a0, .int x1] h) fun v2 h1 => (if v2 = 0 then (some (some (.int 0), h1)) else (zbI (zcf X m_X_isWay [.int x2] h1) fun v4 h3 => (if v4 = 0 then (some (some (.int 0), h3)) else (zbV (zcf X m_H_face [.ref a0, .int x1, .int x2] h3) fun h5 => (some (some (.int 1), h5))))))) := by
  refine (zcf_run (Nat.le_of_ble_eq_true rfl)).trans ?_
  show zrn X 2 m_T_facesSo 0 [some (.ref a0), some (.int x1), some (.int x2)] [] h = _
  refine (rn_ld d_T_facesSo_0 rfl rfl rfl rfl).trans ?_
  refine (rn_ld d_T_facesSo_1 rfl rfl rfl rfl).trans ?_
  refine (rn_vI d_T_facesSo_2 (zinv_v l_2_75 (by decide) (Nat.le_of_ble_eq_true rfl) rfl rfl H0.c (Nat.le_of_ble_eq_true rfl)) (Nat.le_of_ble_eq_true rfl) (Or.inr rfl)).trans (zbI_congr fun v2 h1 => ?_)
  refine (rn_if_eq d_T_facesSo_5 (t := 15) (by decide)).trans (zif ?_ ?_)
  · refine (rn_push d_T_facesSo_15 zcs_iconst_0).trans ?_
    exact rn_rz d_T_facesSo_16 rfl (by decide)
  · refine (rn_ld d_T_facesSo_8 rfl rfl rfl rfl).trans ?_
    refine (rn_sI d_T_facesSo_9 nb_2_64 (zinv_s l_2_64 (by decide) (Nat.le_of_ble_eq_true rfl) rfl rfl (Nat.le_of_ble_eq_true rfl)) (Nat.le_of_ble_eq_true rfl) (Or.inr rfl)).trans (zbI_congr fun v4 h3 => ?_)
    refine (rn_if_ne d_T_facesSo_12 (t := 17) (by decide)).trans (zif ?_ ?_)
    · refine (rn_push d_T_facesSo_15 zcs_iconst_0).trans ?_
      exact rn_rz d_T_facesSo_16 rfl (by decide)
    · refine (rn_ld d_T_facesSo_17 rfl rfl rfl rfl).trans ?_
      refine (rn_ld d_T_facesSo_18 rfl rfl rfl rfl).trans ?_
      refine (rn_ld d_T_facesSo_19 rfl rfl rfl rfl).trans ?_
      refine (rn_vV d_T_facesSo_20 (zinv_v l_2_78 (by decide) (Nat.le_of_ble_eq_true rfl) rfl rfl H0.c (Nat.le_of_ble_eq_true rfl)) (Nat.le_of_ble_eq_true rfl) rfl).trans (zbV_congr fun h5 => ?_)
      refine (rn_push d_T_facesSo_23 zcs_iconst_1).trans ?_
      exact rn_rz d_T_facesSo_24 rfl (by decide)
theorem e_H_has {X : zX} {a : Nat} {x1 : Int32} {h : zH} (H : isH a) : zcf X m_H_has [.ref a, .int x1] h = (if x1 < 0 then (some (some (.int 0), h)) else (if (h.1 a 5) ≤ x1 then (some (some (.int 0), h)) else (some (some (.int 1), h)))) := by
  refine (zcf_run (Nat.le_of_ble_eq_true rfl)).trans ?_
  show zrn X 0 m_H_has 0 [some (.ref a), some (.int x1)] [] h = _
  refine (rn_ld d_H_has_0 rfl rfl rfl rfl).trans ?_
  refine (rn_if_lt d_H_has_1 (t := 16) (by decide)).trans (zif ?_ ?_)
  · refine (rn_push d_H_has_16 zcs_iconst_0).trans ?_
    exact rn_rz d_H_has_17 rfl (by decide)
  · refine (rn_ld d_H_has_4 rfl rfl rfl rfl).trans ?_
    refine (rn_ld d_H_has_5 rfl rfl rfl rfl).trans ?_
    refine (rn_gi d_H_has_6 f_0_27 H.c).trans ?_
    refine (rn_ic_ge d_H_has_9 (t := 16) (by decide)).trans (zif ?_ ?_)
    · refine (rn_push d_H_has_16 zcs_iconst_0).trans ?_
      exact rn_rz d_H_has_17 rfl (by decide)
    · refine (rn_push d_H_has_12 zcs_iconst_1).trans ?_
      refine (rn_goto d_H_has_13 (t := 17) (by decide)).trans ?_
      exact rn_rz d_H_has_17 rfl (by decide)
theorem e_H_face {X : zX} {a : Nat} {x1 : Int32} {x2 : Int32} {h : zH} (H : isH a) : zcf X m_H_face [.ref a, .int x1, .int x2] h = (zbV (zcf X m_X_put [.ref (a + 4), .int x1, .int x2] h) fun h1 => (some (none, h1))) := by
  refine (zcf_run (Nat.le_of_ble_eq_true rfl)).trans ?_
  show zrn X 1 m_H_face 0 [some (.ref a), some (.int x1), some (.int x2)] [] h = _
  refine (rn_ld d_H_face_0 rfl rfl rfl rfl).trans ?_
  refine (rn_gr d_H_face_1 f_0_21 H.c H.r3).trans ?_
  refine (rn_ld d_H_face_4 rfl rfl rfl rfl).trans ?_
  refine (rn_ld d_H_face_5 rfl rfl rfl rfl).trans ?_
  refine (rn_sV d_H_face_6 nb_0_44 (zinv_s l_0_44 (by decide) (Nat.le_of_ble_eq_true rfl) rfl rfl (Nat.le_of_ble_eq_true rfl)) (Nat.le_of_ble_eq_true rfl) rfl).trans (zbV_congr fun h1 => ?_)
  exact rn_rv d_H_face_9 rfl
theorem e_T_changesCell {X : zX} {a0 : Nat} {x1 : Int32} {x2 : Int32} {h : zH} (H0 : isH a0) : zcf X m_T_changesCell [.ref a0, .int x1, .int x2] h = (zbI (zcf X m_H_has [.ref a0, .int x1] h) fun v2 h1 => (if v2 = 0 then (some (some (.int 0), h1)) else (zbI (zcf X m_X_isCell [.int x2] h1) fun v4 h3 => (if v4 = 0 then (some (some (.int 0), h3)) else (zbI (zcf X m_H_isFree [.ref a0, .int x2] h3) fun v6 h5 => (if v6 = 0 then (some (some (.int 0), h5)) else (zbV (zcf X m_H_place [.ref a0, .int x1, .int x2] h5) fun h7 => (some (some (.int 1), h7))))))))) := by
  refine (zcf_run (Nat.le_of_ble_eq_true rfl)).trans ?_
  show zrn X 2 m_T_changesCell 0 [some (.ref a0), some (.int x1), some (.int x2)] [] h = _
  refine (rn_ld d_T_changesCell_0 rfl rfl rfl rfl).trans ?_
  refine (rn_ld d_T_changesCell_1 rfl rfl rfl rfl).trans ?_
  refine (rn_vI d_T_changesCell_2 (zinv_v l_2_75 (by decide) (Nat.le_of_ble_eq_true rfl) rfl rfl H0.c (Nat.le_of_ble_eq_true rfl)) (Nat.le_of_ble_eq_true rfl) (Or.inr rfl)).trans (zbI_congr fun v2 h1 => ?_)
  refine (rn_if_eq d_T_changesCell_5 (t := 23) (by decide)).trans (zif ?_ ?_)
  · refine (rn_push d_T_changesCell_23 zcs_iconst_0).trans ?_
    exact rn_rz d_T_changesCell_24 rfl (by decide)
  · refine (rn_ld d_T_changesCell_8 rfl rfl rfl rfl).trans ?_
    refine (rn_sI d_T_changesCell_9 nb_2_61 (zinv_s l_2_61 (by decide) (Nat.le_of_ble_eq_true rfl) rfl rfl (Nat.le_of_ble_eq_true rfl)) (Nat.le_of_ble_eq_true rfl) (Or.inr rfl)).trans (zbI_congr fun v4 h3 => ?_)
    refine (rn_if_eq d_T_changesCell_12 (t := 23) (by decide)).trans (zif ?_ ?_)
    · refine (rn_push d_T_changesCell_23 zcs_iconst_0).trans ?_
      exact rn_rz d_T_changesCell_24 rfl (by decide)
    · refine (rn_ld d_T_changesCell_15 rfl rfl rfl rfl).trans ?_
      refine (rn_ld d_T_changesCell_16 rfl rfl rfl rfl).trans ?_
      refine (rn_vI d_T_changesCell_17 (zinv_v l_2_68 (by decide) (Nat.le_of_ble_eq_true rfl) rfl rfl H0.c (Nat.le_of_ble_eq_true rfl)) (Nat.le_of_ble_eq_true rfl) (Or.inr rfl)).trans (zbI_congr fun v6 h5 => ?_)
      refine (rn_if_ne d_T_changesCell_20 (t := 25) (by decide)).trans (zif ?_ ?_)
      · refine (rn_push d_T_changesCell_23 zcs_iconst_0).trans ?_
        exact rn_rz d_T_changesCell_24 rfl (by decide)
      · refine (rn_ld d_T_changesCell_25 rfl rfl rfl rfl).trans ?_
        refine (rn_ld d_T_changesCell_26 rfl rfl rfl rfl).trans ?_
        refine (rn_ld d_T_changesCell_27 rfl rfl rfl rfl).trans ?_
        refine (rn_vV d_T_changesCell_28 (zinv_v l_2_82 (by decide) (Nat.le_of_ble_eq_true rfl) rfl rfl H0.c (Nat.le_of_ble_eq_true rfl)) (Nat.le_of_ble_eq_true rfl) rfl).trans (zbV_congr fun h7 => ?_)
        refine (rn_push d_T_changesCell_31 zcs_iconst_1).trans ?_
        exact rn_rz d_T_changesCell_32 rfl (by decide)
theorem e_H_place {X : zX} {a : Nat} {x1 : Int32} {x2 : Int32} {h : zH} (H : isH a) : zcf X m_H_place [.ref a, .int x1, .int x2] h = (zbV (zcf X m_X_put [.ref (a + 3), .int x1, .int x2] h) fun h1 => (some (none, h1))) := by
  refine (zcf_run (Nat.le_of_ble_eq_true rfl)).trans ?_
  show zrn X 1 m_H_place 0 [some (.ref a), some (.int x1), some (.int x2)] [] h = _
  refine (rn_ld d_H_place_0 rfl rfl rfl rfl).trans ?_
  refine (rn_gr d_H_place_1 f_0_18 H.c H.r2).trans ?_
  refine (rn_ld d_H_place_4 rfl rfl rfl rfl).trans ?_
  refine (rn_ld d_H_place_5 rfl rfl rfl rfl).trans ?_
  refine (rn_sV d_H_place_6 nb_0_44 (zinv_s l_0_44 (by decide) (Nat.le_of_ble_eq_true rfl) rfl rfl (Nat.le_of_ble_eq_true rfl)) (Nat.le_of_ble_eq_true rfl) rfl).trans (zbV_congr fun h1 => ?_)
  exact rn_rv d_H_place_9 rfl
theorem e_H_hasRoomFor {X : zX} {a : Nat} {x1 : Int32} {h : zH} (H : isH a) : zcf X m_H_hasRoomFor [.ref a, .int x1] h = (if 60 < x1 then (some (some (.int 0), h)) else (if 999 < ((h.1 a 6) + x1) then (some (some (.int 0), h)) else (some (some (.int 1), h)))) := by
  refine (zcf_run (Nat.le_of_ble_eq_true rfl)).trans ?_
  show zrn X 0 m_H_hasRoomFor 0 [some (.ref a), some (.int x1)] [] h = _
  refine (rn_ld d_H_hasRoomFor_0 rfl rfl rfl rfl).trans ?_
  refine (rn_push d_H_hasRoomFor_1 zcs_bipush_60).trans ?_
  refine (rn_ic_gt d_H_hasRoomFor_3 (t := 22) (by decide)).trans (zif ?_ ?_)
  · refine (rn_push d_H_hasRoomFor_22 zcs_iconst_0).trans ?_
    exact rn_rz d_H_hasRoomFor_23 rfl (by decide)
  · refine (rn_ld d_H_hasRoomFor_6 rfl rfl rfl rfl).trans ?_
    refine (rn_gi d_H_hasRoomFor_7 f_0_31 H.c).trans ?_
    refine (rn_ld d_H_hasRoomFor_10 rfl rfl rfl rfl).trans ?_
    refine (rn_a2 d_H_hasRoomFor_11 rfl).trans ?_
    refine (rn_push d_H_hasRoomFor_12 zcs_sipush_999).trans ?_
    refine (rn_ic_gt d_H_hasRoomFor_15 (t := 22) (by decide)).trans (zif ?_ ?_)
    · refine (rn_push d_H_hasRoomFor_22 zcs_iconst_0).trans ?_
      exact rn_rz d_H_hasRoomFor_23 rfl (by decide)
    · refine (rn_push d_H_hasRoomFor_18 zcs_iconst_1).trans ?_
      refine (rn_goto d_H_hasRoomFor_19 (t := 23) (by decide)).trans ?_
      exact rn_rz d_H_hasRoomFor_23 rfl (by decide)
theorem b_H_pass_2 {X : zX} {a : Nat} {x1 : Int32} {x2 : Int32} {h : zH} (H : isH a) : zrn X 5 m_H_pass 2 [some (.ref a), some (.int x1), some (.int x2)] [] h = (if x1 ≤ x2 then (some (none, h)) else (zbV (zcf X m_H_nightWithout [.ref a, .int (-9)] h) fun h1 => zrn X 5 m_H_pass 2 [some (.ref a), some (.int x1), some (.int (x2 + 1))] [] h1)) := by
  refine (rn_ld d_H_pass_2 rfl rfl rfl rfl).trans ?_
  refine (rn_ld d_H_pass_3 rfl rfl rfl rfl).trans ?_
  refine (rn_ic_ge d_H_pass_4 (t := 19) (by decide)).trans (zif ?_ ?_)
  · exact rn_rv d_H_pass_19 rfl
  · refine (rn_ld d_H_pass_7 rfl rfl rfl rfl).trans ?_
    refine (rn_push d_H_pass_8 zcs_bipush_m9).trans ?_
    refine (rn_vV d_H_pass_10 (zinv_v l_0_99 (by decide) (Nat.le_of_ble_eq_true rfl) rfl rfl H.c (Nat.le_of_ble_eq_true rfl)) (Nat.le_of_ble_eq_true rfl) rfl).trans (zbV_congr fun h1 => ?_)
    refine (rn_inc d_H_pass_13 rfl (c := 1) (by decide) (ls' := [some (.ref a), some (.int x1), some (.int (x2 + 1))]) rfl).trans ?_
    refine (rn_goto d_H_pass_16 (t := 2) (by decide)).trans ?_
    rfl
theorem e_H_pass {X : zX} {a : Nat} {x1 : Int32} {h : zH} (H : isH a) : zcf X m_H_pass [.ref a, .int x1] h = zrn X 5 m_H_pass 2 [some (.ref a), some (.int x1), some (.int 0)] [] h := by
  refine (zcf_run (Nat.le_of_ble_eq_true rfl)).trans ?_
  show zrn X 5 m_H_pass 0 [some (.ref a), some (.int x1), none] [] h = _
  refine (rn_push d_H_pass_0 zcs_iconst_0).trans ?_
  refine (rn_st d_H_pass_1 rfl rfl rfl (by decide) rfl (Nat.le_of_ble_eq_true rfl) (ls' := [some (.ref a), some (.int x1), some (.int 0)]) rfl).trans ?_
  rfl
theorem b_H_nightWithout_22 {X : zX} {a : Nat} {x1 : Int32} {x2 : Int32} {g3 : Option Value} {h : zH} (H : isH a) : zrn X 4 m_H_nightWithout 22 [some (.ref a), some (.int x1), some (.int x2), g3] [] h = (if (h.1 a 5) ≤ x2 then (some (none, h)) else (if x2 = x1 then zrn X 4 m_H_nightWithout 22 [some (.ref a), some (.int x1), some (.int (x2 + 1)), some (.int (-9))] [] h else (zbI (zcf X m_H_inLens [.ref a, .int x2] h) fun v2 h1 => (if v2 = (-9) then zrn X 4 m_H_nightWithout 22 [some (.ref a), some (.int x1), some (.int (x2 + 1)), some (.int v2)] [] h1 else (zbI (zcf X m_X_bitOf [.int x2] h1) fun v4 h3 => (zbI (zcf X m_X_at [.ref (a + 5), .int x2] ((zup h3.1 a 7 ((h1.1 a 7) ||| v4)), h3.2)) fun v6 h5 => (zbV (zcf X m_X_put [.ref (a + 5), .int x2, .int (if (v6 + 1) < 99 then (v6 + 1) else 99)] h5) fun h7 => (zbI (zcf X m_H_stirs [.ref a, .int x2, .int v2] h7) fun v9 h8 => (if v9 = 0 then zrn X 4 m_H_nightWithout 22 [some (.ref a), some (.int x1), some (.int (x2 + 1)), some (.int v2)] [] ((zup h8.1 a 8 ((h7.1 a 8) ||| 0)), h8.2) else (zbI (zcf X m_X_bitOf [.int x2] h8) fun v11 h10 => zrn X 4 m_H_nightWithout 22 [some (.ref a), some (.int x1), some (.int (x2 + 1)), some (.int v2)] [] ((zup h10.1 a 8 ((h7.1 a 8) ||| v11)), h10.2))))))))))) := by
  refine (rn_ld d_H_nightWithout_22 rfl rfl rfl rfl).trans ?_
  refine (rn_ld d_H_nightWithout_23 rfl rfl rfl rfl).trans ?_
  refine (rn_gi d_H_nightWithout_24 f_0_27 H.c).trans ?_
  refine (rn_ic_ge d_H_nightWithout_27 (t := 120) (by decide)).trans (zif ?_ ?_)
  · exact rn_rv d_H_nightWithout_120 rfl
  · refine (rn_ld d_H_nightWithout_30 rfl rfl rfl rfl).trans ?_
    refine (rn_ld d_H_nightWithout_31 rfl rfl rfl rfl).trans ?_
    refine (rn_ic_ne d_H_nightWithout_32 (t := 40) (by decide)).trans (zif ?_ ?_)
    · refine (rn_push d_H_nightWithout_35 zcs_bipush_m9).trans ?_
      refine (rn_goto d_H_nightWithout_37 (t := 45) (by decide)).trans ?_
      refine (rn_st d_H_nightWithout_45 rfl rfl rfl (by decide) rfl (Nat.le_of_ble_eq_true rfl) (ls' := [some (.ref a), some (.int x1), some (.int x2), some (.int (-9))]) rfl).trans ?_
      refine (rn_ld d_H_nightWithout_46 rfl rfl rfl rfl).trans ?_
      refine (rn_push d_H_nightWithout_47 zcs_bipush_m9).trans ?_
      refine ((rn_ic_eq d_H_nightWithout_49 (t := 114) (by decide)).trans (if_pos (by decide))).trans ?_
      refine (rn_inc d_H_nightWithout_114 rfl (c := 1) (by decide) (ls' := [some (.ref a), some (.int x1), some (.int (x2 + 1)), some (.int (-9))]) rfl).trans ?_
      refine (rn_goto d_H_nightWithout_117 (t := 22) (by decide)).trans ?_
      rfl
    · refine (rn_ld d_H_nightWithout_40 rfl rfl rfl rfl).trans ?_
      refine (rn_ld d_H_nightWithout_41 rfl rfl rfl rfl).trans ?_
      refine (rn_vI d_H_nightWithout_42 (zinv_v l_0_96 (by decide) (Nat.le_of_ble_eq_true rfl) rfl rfl H.c (Nat.le_of_ble_eq_true rfl)) (Nat.le_of_ble_eq_true rfl) (Or.inl rfl)).trans (zbI_congr fun v2 h1 => ?_)
      refine (rn_st d_H_nightWithout_45 rfl rfl rfl (by decide) rfl (Nat.le_of_ble_eq_true rfl) (ls' := [some (.ref a), some (.int x1), some (.int x2), some (.int v2)]) rfl).trans ?_
      refine (rn_ld d_H_nightWithout_46 rfl rfl rfl rfl).trans ?_
      refine (rn_push d_H_nightWithout_47 zcs_bipush_m9).trans ?_
      refine (rn_ic_eq d_H_nightWithout_49 (t := 114) (by decide)).trans (zif ?_ ?_)
      · refine (rn_inc d_H_nightWithout_114 rfl (c := 1) (by decide) (ls' := [some (.ref a), some (.int x1), some (.int (x2 + 1)), some (.int v2)]) rfl).trans ?_
        refine (rn_goto d_H_nightWithout_117 (t := 22) (by decide)).trans ?_
        rfl
      · refine (rn_ld d_H_nightWithout_52 rfl rfl rfl rfl).trans ?_
        refine (rn_dup d_H_nightWithout_53 rfl).trans ?_
        refine (rn_gi d_H_nightWithout_54 f_0_34 H.c).trans ?_
        refine (rn_ld d_H_nightWithout_57 rfl rfl rfl rfl).trans ?_
        refine (rn_sI d_H_nightWithout_58 nb_0_48 (zinv_s l_0_48 (by decide) (Nat.le_of_ble_eq_true rfl) rfl rfl (Nat.le_of_ble_eq_true rfl)) (Nat.le_of_ble_eq_true rfl) (Or.inl rfl)).trans (zbI_congr fun v4 h3 => ?_)
        refine (rn_a2 d_H_nightWithout_61 rfl).trans ?_
        refine (rn_pi d_H_nightWithout_62 f_0_34 H.c).trans ?_
        refine (rn_ld d_H_nightWithout_65 rfl rfl rfl rfl).trans ?_
        refine (rn_gr d_H_nightWithout_66 f_0_24 H.c H.r4).trans ?_
        refine (rn_ld d_H_nightWithout_69 rfl rfl rfl rfl).trans ?_
        refine (rn_push d_H_nightWithout_70 zcs_bipush_99).trans ?_
        refine (rn_ld d_H_nightWithout_72 rfl rfl rfl rfl).trans ?_
        refine (rn_gr d_H_nightWithout_73 f_0_24 H.c H.r4).trans ?_
        refine (rn_ld d_H_nightWithout_76 rfl rfl rfl rfl).trans ?_
        refine (rn_sI d_H_nightWithout_77 nb_0_40 (zinv_s l_0_40 (by decide) (Nat.le_of_ble_eq_true rfl) rfl rfl (Nat.le_of_ble_eq_true rfl)) (Nat.le_of_ble_eq_true rfl) (Or.inl rfl)).trans (zbI_congr fun v6 h5 => ?_)
        refine (rn_push d_H_nightWithout_80 zcs_iconst_1).trans ?_
        refine (rn_a2 d_H_nightWithout_81 rfl).trans ?_
        refine (rn_min d_H_nightWithout_82 (zb_0_103) (Nat.le_of_ble_eq_true rfl)).trans ?_
        refine (rn_sV d_H_nightWithout_85 nb_0_44 (zinv_s l_0_44 (by decide) (Nat.le_of_ble_eq_true rfl) rfl rfl (Nat.le_of_ble_eq_true rfl)) (Nat.le_of_ble_eq_true rfl) rfl).trans (zbV_congr fun h7 => ?_)
        refine (rn_ld d_H_nightWithout_88 rfl rfl rfl rfl).trans ?_
        refine (rn_dup d_H_nightWithout_89 rfl).trans ?_
        refine (rn_gi d_H_nightWithout_90 f_0_37 H.c).trans ?_
        refine (rn_ld d_H_nightWithout_93 rfl rfl rfl rfl).trans ?_
        refine (rn_ld d_H_nightWithout_94 rfl rfl rfl rfl).trans ?_
        refine (rn_ld d_H_nightWithout_95 rfl rfl rfl rfl).trans ?_
        refine (rn_vI d_H_nightWithout_96 (zinv_v l_0_106 (by decide) (Nat.le_of_ble_eq_true rfl) rfl rfl H.c (Nat.le_of_ble_eq_true rfl)) (Nat.le_of_ble_eq_true rfl) (Or.inr rfl)).trans (zbI_congr fun v9 h8 => ?_)
        refine (rn_if_eq d_H_nightWithout_99 (t := 109) (by decide)).trans (zif ?_ ?_)
        · refine (rn_push d_H_nightWithout_109 zcs_iconst_0).trans ?_
          refine (rn_a2 d_H_nightWithout_110 rfl).trans ?_
          refine (rn_pi d_H_nightWithout_111 f_0_37 H.c).trans ?_
          refine (rn_inc d_H_nightWithout_114 rfl (c := 1) (by decide) (ls' := [some (.ref a), some (.int x1), some (.int (x2 + 1)), some (.int v2)]) rfl).trans ?_
          refine (rn_goto d_H_nightWithout_117 (t := 22) (by decide)).trans ?_
          rfl
        · refine (rn_ld d_H_nightWithout_102 rfl rfl rfl rfl).trans ?_
          refine (rn_sI d_H_nightWithout_103 nb_0_48 (zinv_s l_0_48 (by decide) (Nat.le_of_ble_eq_true rfl) rfl rfl (Nat.le_of_ble_eq_true rfl)) (Nat.le_of_ble_eq_true rfl) (Or.inl rfl)).trans (zbI_congr fun v11 h10 => ?_)
          refine (rn_goto d_H_nightWithout_106 (t := 110) (by decide)).trans ?_
          refine (rn_a2 d_H_nightWithout_110 rfl).trans ?_
          refine (rn_pi d_H_nightWithout_111 f_0_37 H.c).trans ?_
          refine (rn_inc d_H_nightWithout_114 rfl (c := 1) (by decide) (ls' := [some (.ref a), some (.int x1), some (.int (x2 + 1)), some (.int v2)]) rfl).trans ?_
          refine (rn_goto d_H_nightWithout_117 (t := 22) (by decide)).trans ?_
          rfl
theorem e_H_nightWithout {X : zX} {a : Nat} {x1 : Int32} {h : zH} (H : isH a) : zcf X m_H_nightWithout [.ref a, .int x1] h = zrn X 4 m_H_nightWithout 22 [some (.ref a), some (.int x1), some (.int 0), none] [] ((zup (zup (zup h.1 a 6 ((h.1 a 6) + 1)) a 7 0) a 8 0), h.2) := by
  refine (zcf_run (Nat.le_of_ble_eq_true rfl)).trans ?_
  show zrn X 4 m_H_nightWithout 0 [some (.ref a), some (.int x1), none, none] [] h = _
  refine (rn_ld d_H_nightWithout_0 rfl rfl rfl rfl).trans ?_
  refine (rn_dup d_H_nightWithout_1 rfl).trans ?_
  refine (rn_gi d_H_nightWithout_2 f_0_31 H.c).trans ?_
  refine (rn_push d_H_nightWithout_5 zcs_iconst_1).trans ?_
  refine (rn_a2 d_H_nightWithout_6 rfl).trans ?_
  refine (rn_pi d_H_nightWithout_7 f_0_31 H.c).trans ?_
  refine (rn_ld d_H_nightWithout_10 rfl rfl rfl rfl).trans ?_
  refine (rn_push d_H_nightWithout_11 zcs_iconst_0).trans ?_
  refine (rn_pi d_H_nightWithout_12 f_0_34 H.c).trans ?_
  refine (rn_ld d_H_nightWithout_15 rfl rfl rfl rfl).trans ?_
  refine (rn_push d_H_nightWithout_16 zcs_iconst_0).trans ?_
  refine (rn_pi d_H_nightWithout_17 f_0_37 H.c).trans ?_
  refine (rn_push d_H_nightWithout_20 zcs_iconst_0).trans ?_
  refine (rn_st d_H_nightWithout_21 rfl rfl rfl (by decide) rfl (Nat.le_of_ble_eq_true rfl) (ls' := [some (.ref a), some (.int x1), some (.int 0), none]) rfl).trans ?_
  rfl
theorem e_H_inLens {X : zX} {a : Nat} {x1 : Int32} {h : zH} (H : isH a) : zcf X m_H_inLens [.ref a, .int x1] h = (zbI (zcf X m_X_at [.ref (a + 4), .int x1] h) fun v2 h1 => (zbI (zcf X m_X_turned [.int v2, .int 2] h1) fun v4 h3 => (zbI (zcf X m_H_depthOf [.ref a, .int x1] h3) fun v6 h5 => (zbI (zcf X m_H_nextTo [.ref a, .int x1, .int v4, .int v6] h5) fun v8 h7 => (some (some (.int v8), h7)))))) := by
  refine (zcf_run (Nat.le_of_ble_eq_true rfl)).trans ?_
  show zrn X 2 m_H_inLens 0 [some (.ref a), some (.int x1)] [] h = _
  refine (rn_ld d_H_inLens_0 rfl rfl rfl rfl).trans ?_
  refine (rn_ld d_H_inLens_1 rfl rfl rfl rfl).trans ?_
  refine (rn_ld d_H_inLens_2 rfl rfl rfl rfl).trans ?_
  refine (rn_gr d_H_inLens_3 f_0_21 H.c H.r3).trans ?_
  refine (rn_ld d_H_inLens_6 rfl rfl rfl rfl).trans ?_
  refine (rn_sI d_H_inLens_7 nb_0_40 (zinv_s l_0_40 (by decide) (Nat.le_of_ble_eq_true rfl) rfl rfl (Nat.le_of_ble_eq_true rfl)) (Nat.le_of_ble_eq_true rfl) (Or.inl rfl)).trans (zbI_congr fun v2 h1 => ?_)
  refine (rn_push d_H_inLens_10 zcs_iconst_2).trans ?_
  refine (rn_sI d_H_inLens_11 nb_0_87 (zinv_s l_0_87 (by decide) (Nat.le_of_ble_eq_true rfl) rfl rfl (Nat.le_of_ble_eq_true rfl)) (Nat.le_of_ble_eq_true rfl) (Or.inl rfl)).trans (zbI_congr fun v4 h3 => ?_)
  refine (rn_ld d_H_inLens_14 rfl rfl rfl rfl).trans ?_
  refine (rn_ld d_H_inLens_15 rfl rfl rfl rfl).trans ?_
  refine (rn_vI d_H_inLens_16 (zinv_v l_0_90 (by decide) (Nat.le_of_ble_eq_true rfl) rfl rfl H.c (Nat.le_of_ble_eq_true rfl)) (Nat.le_of_ble_eq_true rfl) (Or.inl rfl)).trans (zbI_congr fun v6 h5 => ?_)
  refine (rn_vI d_H_inLens_19 (zinv_v l_0_83 (by decide) (Nat.le_of_ble_eq_true rfl) rfl rfl H.c (Nat.le_of_ble_eq_true rfl)) (Nat.le_of_ble_eq_true rfl) (Or.inl rfl)).trans (zbI_congr fun v8 h7 => ?_)
  exact rn_ri d_H_inLens_22 rfl
theorem e_H_depthOf {X : zX} {a : Nat} {x1 : Int32} {h : zH} (H : isH a) : zcf X m_H_depthOf [.ref a, .int x1] h = (zbI (zcf X m_X_at [.ref (a + 1), .int x1] h) fun v2 h1 => (zbI (zcf X m_X_at [.ref (a + 2), .int x1] h1) fun v4 h3 => (zbI (zcf X m_X_depth [.int v2, .int v4] h3) fun v6 h5 => (some (some (.int v6), h5))))) := by
  refine (zcf_run (Nat.le_of_ble_eq_true rfl)).trans ?_
  show zrn X 1 m_H_depthOf 0 [some (.ref a), some (.int x1)] [] h = _
  refine (rn_ld d_H_depthOf_0 rfl rfl rfl rfl).trans ?_
  refine (rn_gr d_H_depthOf_1 f_0_9 H.c H.r0).trans ?_
  refine (rn_ld d_H_depthOf_4 rfl rfl rfl rfl).trans ?_
  refine (rn_sI d_H_depthOf_5 nb_0_40 (zinv_s l_0_40 (by decide) (Nat.le_of_ble_eq_true rfl) rfl rfl (Nat.le_of_ble_eq_true rfl)) (Nat.le_of_ble_eq_true rfl) (Or.inl rfl)).trans (zbI_congr fun v2 h1 => ?_)
  refine (rn_ld d_H_depthOf_8 rfl rfl rfl rfl).trans ?_
  refine (rn_gr d_H_depthOf_9 f_0_15 H.c H.r1).trans ?_
  refine (rn_ld d_H_depthOf_12 rfl rfl rfl rfl).trans ?_
  refine (rn_sI d_H_depthOf_13 nb_0_40 (zinv_s l_0_40 (by decide) (Nat.le_of_ble_eq_true rfl) rfl rfl (Nat.le_of_ble_eq_true rfl)) (Nat.le_of_ble_eq_true rfl) (Or.inl rfl)).trans (zbI_congr fun v4 h3 => ?_)
  refine (rn_sI d_H_depthOf_16 nb_0_56 (zinv_s l_0_56 (by decide) (Nat.le_of_ble_eq_true rfl) rfl rfl (Nat.le_of_ble_eq_true rfl)) (Nat.le_of_ble_eq_true rfl) (Or.inl rfl)).trans (zbI_congr fun v6 h5 => ?_)
  exact rn_ri d_H_depthOf_19 rfl
theorem b_H_nextTo_13 {X : zX} {a : Nat} {x1 : Int32} {x2 : Int32} {x3 : Int32} {x4 : Int32} {x5 : Int32} {g6 : Option Value} {h : zH} (H : isH a) : zrn X 1 m_H_nextTo 13 [some (.ref a), some (.int x1), some (.int x2), some (.int x3), some (.int x4), some (.int x5), g6] [] h = (if x3 ≤ x5 then (some (some (.int (-9)), h)) else (zbI (zcf X m_X_cellBeside [.int x4, .int x2] h) fun v2 h1 => (if v2 = (-1) then (some (some (.int (-9)), h1)) else (zbI (zcf X m_H_whoIsAt [.ref a, .int v2] h1) fun v4 h3 => (if v4 = (-9) then zrn X 1 m_H_nextTo 13 [some (.ref a), some (.int x1), some (.int x2), some (.int x3), some (.int v2), some (.int (x5 + 1)), some (.int v4)] [] h3 else (some (some (.int v4), h3))))))) := by
  refine (rn_ld d_H_nextTo_13 rfl rfl rfl rfl).trans ?_
  refine (rn_ld d_H_nextTo_15 rfl rfl rfl rfl).trans ?_
  refine (rn_ic_ge d_H_nextTo_16 (t := 60) (by decide)).trans (zif ?_ ?_)
  · refine (rn_push d_H_nextTo_60 zcs_bipush_m9).trans ?_
    exact rn_ri d_H_nextTo_62 rfl
  · refine (rn_ld d_H_nextTo_19 rfl rfl rfl rfl).trans ?_
    refine (rn_ld d_H_nextTo_21 rfl rfl rfl rfl).trans ?_
    refine (rn_sI d_H_nextTo_22 nb_0_73 (zinv_s l_0_73 (by decide) (Nat.le_of_ble_eq_true rfl) rfl rfl (Nat.le_of_ble_eq_true rfl)) (Nat.le_of_ble_eq_true rfl) (Or.inl rfl)).trans (zbI_congr fun v2 h1 => ?_)
    refine (rn_st d_H_nextTo_25 rfl rfl rfl (by decide) rfl (Nat.le_of_ble_eq_true rfl) (ls' := [some (.ref a), some (.int x1), some (.int x2), some (.int x3), some (.int v2), some (.int x5), g6]) rfl).trans ?_
    refine (rn_ld d_H_nextTo_27 rfl rfl rfl rfl).trans ?_
    refine (rn_push d_H_nextTo_29 zcs_iconst_m1).trans ?_
    refine (rn_ic_ne d_H_nextTo_30 (t := 36) (by decide)).trans (zif ?_ ?_)
    · refine (rn_push d_H_nextTo_33 zcs_bipush_m9).trans ?_
      exact rn_ri d_H_nextTo_35 rfl
    · refine (rn_ld d_H_nextTo_36 rfl rfl rfl rfl).trans ?_
      refine (rn_ld d_H_nextTo_37 rfl rfl rfl rfl).trans ?_
      refine (rn_vI d_H_nextTo_39 (zinv_v l_0_59 (by decide) (Nat.le_of_ble_eq_true rfl) rfl rfl H.c (Nat.le_of_ble_eq_true rfl)) (Nat.le_of_ble_eq_true rfl) (Or.inl rfl)).trans (zbI_congr fun v4 h3 => ?_)
      refine (rn_st d_H_nextTo_42 rfl rfl rfl (by decide) rfl (Nat.le_of_ble_eq_true rfl) (ls' := [some (.ref a), some (.int x1), some (.int x2), some (.int x3), some (.int v2), some (.int x5), some (.int v4)]) rfl).trans ?_
      refine (rn_ld d_H_nextTo_44 rfl rfl rfl rfl).trans ?_
      refine (rn_push d_H_nextTo_46 zcs_bipush_m9).trans ?_
      refine (rn_ic_eq d_H_nextTo_48 (t := 54) (by decide)).trans (zif ?_ ?_)
      · refine (rn_inc d_H_nextTo_54 rfl (c := 1) (by decide) (ls' := [some (.ref a), some (.int x1), some (.int x2), some (.int x3), some (.int v2), some (.int (x5 + 1)), some (.int v4)]) rfl).trans ?_
        refine (rn_goto d_H_nextTo_57 (t := 13) (by decide)).trans ?_
        rfl
      · refine (rn_ld d_H_nextTo_51 rfl rfl rfl rfl).trans ?_
        exact rn_ri d_H_nextTo_53 rfl
theorem e_H_nextTo {X : zX} {a : Nat} {x1 : Int32} {x2 : Int32} {x3 : Int32} {h : zH} (H : isH a) : zcf X m_H_nextTo [.ref a, .int x1, .int x2, .int x3] h = (zbI (zcf X m_X_at [.ref (a + 3), .int x1] h) fun v2 h1 => zrn X 1 m_H_nextTo 13 [some (.ref a), some (.int x1), some (.int x2), some (.int x3), some (.int v2), some (.int 0), none] [] h1) := by
  refine (zcf_run (Nat.le_of_ble_eq_true rfl)).trans ?_
  show zrn X 1 m_H_nextTo 0 [some (.ref a), some (.int x1), some (.int x2), some (.int x3), none, none, none] [] h = _
  refine (rn_ld d_H_nextTo_0 rfl rfl rfl rfl).trans ?_
  refine (rn_gr d_H_nextTo_1 f_0_18 H.c H.r2).trans ?_
  refine (rn_ld d_H_nextTo_4 rfl rfl rfl rfl).trans ?_
  refine (rn_sI d_H_nextTo_5 nb_0_40 (zinv_s l_0_40 (by decide) (Nat.le_of_ble_eq_true rfl) rfl rfl (Nat.le_of_ble_eq_true rfl)) (Nat.le_of_ble_eq_true rfl) (Or.inl rfl)).trans (zbI_congr fun v2 h1 => ?_)
  refine (rn_st d_H_nextTo_8 rfl rfl rfl (by decide) rfl (Nat.le_of_ble_eq_true rfl) (ls' := [some (.ref a), some (.int x1), some (.int x2), some (.int x3), some (.int v2), none, none]) rfl).trans ?_
  refine (rn_push d_H_nextTo_10 zcs_iconst_0).trans ?_
  refine (rn_st d_H_nextTo_11 rfl rfl rfl (by decide) rfl (Nat.le_of_ble_eq_true rfl) (ls' := [some (.ref a), some (.int x1), some (.int x2), some (.int x3), some (.int v2), some (.int 0), none]) rfl).trans ?_
  rfl
theorem e_H_stirs {X : zX} {a : Nat} {x1 : Int32} {x2 : Int32} {h : zH} (H : isH a) : zcf X m_H_stirs [.ref a, .int x1, .int x2] h = (zbI (zcf X m_X_at [.ref (a + 1), .int x1] h) fun v2 h1 => (if v2 = 0 then (zbI (zcf X m_H_ahead [.ref a, .int x2] h1) fun v5 h4 => (if v5 = x1 then (zbI (zcf X m_H_turnsBy [.ref a, .int x1, .int 2] h4) fun v7 h6 => (if v7 = 0 then (some (some (.int 0), h6)) else (some (some (.int 1), h6)))) else (some (some (.int 0), h4)))) else (if v2 = 1 then (zbI (zcf X m_H_turnsBy [.ref a, .int x1, .int 1] h1) fun v10 h9 => (if v10 = 0 ∨ v10 = 1 then (some (some (.int v10), h9)) else none)) else (if v2 = 2 then (zbI (zcf X m_X_at [.ref (a + 3), .int x1] h1) fun v13 h12 => (zbI (zcf X m_X_at [.ref (a + 4), .int x1] h12) fun v15 h14 => (zbI (zcf X m_X_turned [.int v15, .int 2] h14) fun v17 h16 => (zbI (zcf X m_X_cellBeside [.int v13, .int v17] h16) fun v19 h18 => (zbI (zcf X m_H_stepsTo [.ref a, .int x1, .int v19] h18) fun v21 h20 => (if v21 = 0 ∨ v21 = 1 then (some (some (.int v21), h20)) else none)))))) else (if v2 = 3 then (zbI (zcf X m_H_turnsBy [.ref a, .int x1, .int 2] h1) fun v24 h23 => (if v24 = 0 ∨ v24 = 1 then (some (some (.int v24), h23)) else none)) else (if v2 = 4 then (some (some (.int 0), h1)) else (if v2 = 5 then (zbI (zcf X m_X_at [.ref (a + 3), .int x1] h1) fun v28 h27 => (zbI (zcf X m_X_at [.ref (a + 4), .int x1] h27) fun v30 h29 => (zbI (zcf X m_X_cellBeside [.int v28, .int v30] h29) fun v32 h31 => (zbI (zcf X m_H_stepsTo [.ref a, .int x1, .int v32] h31) fun v34 h33 => (if v34 = 0 ∨ v34 = 1 then (some (some (.int v34), h33)) else none))))) else (some (some (.int 0), h1))))))))) := by
  refine (zcf_run (Nat.le_of_ble_eq_true rfl)).trans ?_
  show zrn X 3 m_H_stirs 0 [some (.ref a), some (.int x1), some (.int x2)] [] h = _
  refine (rn_ld d_H_stirs_0 rfl rfl rfl rfl).trans ?_
  refine (rn_gr d_H_stirs_1 f_0_9 H.c H.r0).trans ?_
  refine (rn_ld d_H_stirs_4 rfl rfl rfl rfl).trans ?_
  refine (rn_sI d_H_stirs_5 nb_0_40 (zinv_s l_0_40 (by decide) (Nat.le_of_ble_eq_true rfl) rfl rfl (Nat.le_of_ble_eq_true rfl)) (Nat.le_of_ble_eq_true rfl) (Or.inl rfl)).trans (zbI_congr fun v2 h1 => ?_)
  refine zite (fun q3 => ?_) (fun q3 => ?_)
  · refine (rn_tsw d_H_stirs_8 (t := 48) (by rw [q3]; decide +kernel)).trans ?_
    refine (rn_ld d_H_stirs_48 rfl rfl rfl rfl).trans ?_
    refine (rn_ld d_H_stirs_49 rfl rfl rfl rfl).trans ?_
    refine (rn_vI d_H_stirs_50 (zinv_v l_0_93 (by decide) (Nat.le_of_ble_eq_true rfl) rfl rfl H.c (Nat.le_of_ble_eq_true rfl)) (Nat.le_of_ble_eq_true rfl) (Or.inl rfl)).trans (zbI_congr fun v5 h4 => ?_)
    refine (rn_ld d_H_stirs_53 rfl rfl rfl rfl).trans ?_
    refine (rn_ic_ne d_H_stirs_54 (t := 70) (by decide)).trans (zif ?_ ?_)
    · refine (rn_ld d_H_stirs_57 rfl rfl rfl rfl).trans ?_
      refine (rn_ld d_H_stirs_58 rfl rfl rfl rfl).trans ?_
      refine (rn_push d_H_stirs_59 zcs_iconst_2).trans ?_
      refine (rn_vI d_H_stirs_60 (zinv_v l_0_110 (by decide) (Nat.le_of_ble_eq_true rfl) rfl rfl H.c (Nat.le_of_ble_eq_true rfl)) (Nat.le_of_ble_eq_true rfl) (Or.inr rfl)).trans (zbI_congr fun v7 h6 => ?_)
      refine (rn_if_eq d_H_stirs_63 (t := 70) (by decide)).trans (zif ?_ ?_)
      · refine (rn_push d_H_stirs_70 zcs_iconst_0).trans ?_
        exact rn_rz d_H_stirs_71 rfl (by decide)
      · refine (rn_push d_H_stirs_66 zcs_iconst_1).trans ?_
        refine (rn_goto d_H_stirs_67 (t := 71) (by decide)).trans ?_
        exact rn_rz d_H_stirs_71 rfl (by decide)
    · refine (rn_push d_H_stirs_70 zcs_iconst_0).trans ?_
      exact rn_rz d_H_stirs_71 rfl (by decide)
  · refine zite (fun q8 => ?_) (fun q8 => ?_)
    · refine (rn_tsw d_H_stirs_8 (t := 72) (by rw [q8]; decide +kernel)).trans ?_
      refine (rn_ld d_H_stirs_72 rfl rfl rfl rfl).trans ?_
      refine (rn_ld d_H_stirs_73 rfl rfl rfl rfl).trans ?_
      refine (rn_push d_H_stirs_74 zcs_iconst_1).trans ?_
      refine (rn_vI d_H_stirs_75 (zinv_v l_0_110 (by decide) (Nat.le_of_ble_eq_true rfl) rfl rfl H.c (Nat.le_of_ble_eq_true rfl)) (Nat.le_of_ble_eq_true rfl) (Or.inr rfl)).trans (zbI_congr fun v10 h9 => ?_)
      exact rn_rzg d_H_stirs_78 rfl
    · refine zite (fun q11 => ?_) (fun q11 => ?_)
      · refine (rn_tsw d_H_stirs_8 (t := 79) (by rw [q11]; decide +kernel)).trans ?_
        refine (rn_ld d_H_stirs_79 rfl rfl rfl rfl).trans ?_
        refine (rn_ld d_H_stirs_80 rfl rfl rfl rfl).trans ?_
        refine (rn_ld d_H_stirs_81 rfl rfl rfl rfl).trans ?_
        refine (rn_gr d_H_stirs_82 f_0_18 H.c H.r2).trans ?_
        refine (rn_ld d_H_stirs_85 rfl rfl rfl rfl).trans ?_
        refine (rn_sI d_H_stirs_86 nb_0_40 (zinv_s l_0_40 (by decide) (Nat.le_of_ble_eq_true rfl) rfl rfl (Nat.le_of_ble_eq_true rfl)) (Nat.le_of_ble_eq_true rfl) (Or.inl rfl)).trans (zbI_congr fun v13 h12 => ?_)
        refine (rn_ld d_H_stirs_89 rfl rfl rfl rfl).trans ?_
        refine (rn_gr d_H_stirs_90 f_0_21 H.c H.r3).trans ?_
        refine (rn_ld d_H_stirs_93 rfl rfl rfl rfl).trans ?_
        refine (rn_sI d_H_stirs_94 nb_0_40 (zinv_s l_0_40 (by decide) (Nat.le_of_ble_eq_true rfl) rfl rfl (Nat.le_of_ble_eq_true rfl)) (Nat.le_of_ble_eq_true rfl) (Or.inl rfl)).trans (zbI_congr fun v15 h14 => ?_)
        refine (rn_push d_H_stirs_97 zcs_iconst_2).trans ?_
        refine (rn_sI d_H_stirs_98 nb_0_87 (zinv_s l_0_87 (by decide) (Nat.le_of_ble_eq_true rfl) rfl rfl (Nat.le_of_ble_eq_true rfl)) (Nat.le_of_ble_eq_true rfl) (Or.inl rfl)).trans (zbI_congr fun v17 h16 => ?_)
        refine (rn_sI d_H_stirs_101 nb_0_73 (zinv_s l_0_73 (by decide) (Nat.le_of_ble_eq_true rfl) rfl rfl (Nat.le_of_ble_eq_true rfl)) (Nat.le_of_ble_eq_true rfl) (Or.inl rfl)).trans (zbI_congr fun v19 h18 => ?_)
        refine (rn_vI d_H_stirs_104 (zinv_v l_0_113 (by decide) (Nat.le_of_ble_eq_true rfl) rfl rfl H.c (Nat.le_of_ble_eq_true rfl)) (Nat.le_of_ble_eq_true rfl) (Or.inr rfl)).trans (zbI_congr fun v21 h20 => ?_)
        exact rn_rzg d_H_stirs_107 rfl
      · refine zite (fun q22 => ?_) (fun q22 => ?_)
        · refine (rn_tsw d_H_stirs_8 (t := 108) (by rw [q22]; decide +kernel)).trans ?_
          refine (rn_ld d_H_stirs_108 rfl rfl rfl rfl).trans ?_
          refine (rn_ld d_H_stirs_109 rfl rfl rfl rfl).trans ?_
          refine (rn_push d_H_stirs_110 zcs_iconst_2).trans ?_
          refine (rn_vI d_H_stirs_111 (zinv_v l_0_110 (by decide) (Nat.le_of_ble_eq_true rfl) rfl rfl H.c (Nat.le_of_ble_eq_true rfl)) (Nat.le_of_ble_eq_true rfl) (Or.inr rfl)).trans (zbI_congr fun v24 h23 => ?_)
          exact rn_rzg d_H_stirs_114 rfl
        · refine zite (fun q25 => ?_) (fun q25 => ?_)
          · refine (rn_tsw d_H_stirs_8 (t := 140) (by rw [q25]; decide +kernel)).trans ?_
            refine (rn_push d_H_stirs_140 zcs_iconst_0).trans ?_
            exact rn_rz d_H_stirs_141 rfl (by decide)
          · refine zite (fun q26 => ?_) (fun q26 => ?_)
            · refine (rn_tsw d_H_stirs_8 (t := 115) (by rw [q26]; decide +kernel)).trans ?_
              refine (rn_ld d_H_stirs_115 rfl rfl rfl rfl).trans ?_
              refine (rn_ld d_H_stirs_116 rfl rfl rfl rfl).trans ?_
              refine (rn_ld d_H_stirs_117 rfl rfl rfl rfl).trans ?_
              refine (rn_gr d_H_stirs_118 f_0_18 H.c H.r2).trans ?_
              refine (rn_ld d_H_stirs_121 rfl rfl rfl rfl).trans ?_
              refine (rn_sI d_H_stirs_122 nb_0_40 (zinv_s l_0_40 (by decide) (Nat.le_of_ble_eq_true rfl) rfl rfl (Nat.le_of_ble_eq_true rfl)) (Nat.le_of_ble_eq_true rfl) (Or.inl rfl)).trans (zbI_congr fun v28 h27 => ?_)
              refine (rn_ld d_H_stirs_125 rfl rfl rfl rfl).trans ?_
              refine (rn_gr d_H_stirs_126 f_0_21 H.c H.r3).trans ?_
              refine (rn_ld d_H_stirs_129 rfl rfl rfl rfl).trans ?_
              refine (rn_sI d_H_stirs_130 nb_0_40 (zinv_s l_0_40 (by decide) (Nat.le_of_ble_eq_true rfl) rfl rfl (Nat.le_of_ble_eq_true rfl)) (Nat.le_of_ble_eq_true rfl) (Or.inl rfl)).trans (zbI_congr fun v30 h29 => ?_)
              refine (rn_sI d_H_stirs_133 nb_0_73 (zinv_s l_0_73 (by decide) (Nat.le_of_ble_eq_true rfl) rfl rfl (Nat.le_of_ble_eq_true rfl)) (Nat.le_of_ble_eq_true rfl) (Or.inl rfl)).trans (zbI_congr fun v32 h31 => ?_)
              refine (rn_vI d_H_stirs_136 (zinv_v l_0_113 (by decide) (Nat.le_of_ble_eq_true rfl) rfl rfl H.c (Nat.le_of_ble_eq_true rfl)) (Nat.le_of_ble_eq_true rfl) (Or.inr rfl)).trans (zbI_congr fun v34 h33 => ?_)
              exact rn_rzg d_H_stirs_139 rfl
            · refine (rn_tsw d_H_stirs_8 (t := 140) (zsw_out (by have z0 := lv_neT q3 (a := 0) rfl; have z1 := lv_neT q8 (a := 1) rfl; have z2 := lv_neT q11 (a := 2) rfl; have z3 := lv_neT q22 (a := 3) rfl; have z4 := lv_neT q25 (a := 4) rfl; have z5 := lv_neT q26 (a := 5) rfl; omega) (by decide))).trans ?_
              refine (rn_push d_H_stirs_140 zcs_iconst_0).trans ?_
              exact rn_rz d_H_stirs_141 rfl (by decide)
theorem e_H_ahead {X : zX} {a : Nat} {x1 : Int32} {h : zH} (H : isH a) : zcf X m_H_ahead [.ref a, .int x1] h = (zbI (zcf X m_X_at [.ref (a + 4), .int x1] h) fun v2 h1 => (zbI (zcf X m_H_reachOf [.ref a, .int x1] h1) fun v4 h3 => (zbI (zcf X m_H_nextTo [.ref a, .int x1, .int v2, .int v4] h3) fun v6 h5 => (some (some (.int v6), h5))))) := by
  refine (zcf_run (Nat.le_of_ble_eq_true rfl)).trans ?_
  show zrn X 2 m_H_ahead 0 [some (.ref a), some (.int x1)] [] h = _
  refine (rn_ld d_H_ahead_0 rfl rfl rfl rfl).trans ?_
  refine (rn_ld d_H_ahead_1 rfl rfl rfl rfl).trans ?_
  refine (rn_ld d_H_ahead_2 rfl rfl rfl rfl).trans ?_
  refine (rn_gr d_H_ahead_3 f_0_21 H.c H.r3).trans ?_
  refine (rn_ld d_H_ahead_6 rfl rfl rfl rfl).trans ?_
  refine (rn_sI d_H_ahead_7 nb_0_40 (zinv_s l_0_40 (by decide) (Nat.le_of_ble_eq_true rfl) rfl rfl (Nat.le_of_ble_eq_true rfl)) (Nat.le_of_ble_eq_true rfl) (Or.inl rfl)).trans (zbI_congr fun v2 h1 => ?_)
  refine (rn_ld d_H_ahead_10 rfl rfl rfl rfl).trans ?_
  refine (rn_ld d_H_ahead_11 rfl rfl rfl rfl).trans ?_
  refine (rn_vI d_H_ahead_12 (zinv_v l_0_80 (by decide) (Nat.le_of_ble_eq_true rfl) rfl rfl H.c (Nat.le_of_ble_eq_true rfl)) (Nat.le_of_ble_eq_true rfl) (Or.inl rfl)).trans (zbI_congr fun v4 h3 => ?_)
  refine (rn_vI d_H_ahead_15 (zinv_v l_0_83 (by decide) (Nat.le_of_ble_eq_true rfl) rfl rfl H.c (Nat.le_of_ble_eq_true rfl)) (Nat.le_of_ble_eq_true rfl) (Or.inl rfl)).trans (zbI_congr fun v6 h5 => ?_)
  exact rn_ri d_H_ahead_18 rfl
theorem e_H_reachOf {X : zX} {a : Nat} {x1 : Int32} {h : zH} (H : isH a) : zcf X m_H_reachOf [.ref a, .int x1] h = (zbI (zcf X m_X_at [.ref (a + 1), .int x1] h) fun v2 h1 => (zbI (zcf X m_X_at [.ref (a + 2), .int x1] h1) fun v4 h3 => (zbI (zcf X m_X_reach [.int v2, .int v4] h3) fun v6 h5 => (some (some (.int v6), h5))))) := by
  refine (zcf_run (Nat.le_of_ble_eq_true rfl)).trans ?_
  show zrn X 1 m_H_reachOf 0 [some (.ref a), some (.int x1)] [] h = _
  refine (rn_ld d_H_reachOf_0 rfl rfl rfl rfl).trans ?_
  refine (rn_gr d_H_reachOf_1 f_0_9 H.c H.r0).trans ?_
  refine (rn_ld d_H_reachOf_4 rfl rfl rfl rfl).trans ?_
  refine (rn_sI d_H_reachOf_5 nb_0_40 (zinv_s l_0_40 (by decide) (Nat.le_of_ble_eq_true rfl) rfl rfl (Nat.le_of_ble_eq_true rfl)) (Nat.le_of_ble_eq_true rfl) (Or.inl rfl)).trans (zbI_congr fun v2 h1 => ?_)
  refine (rn_ld d_H_reachOf_8 rfl rfl rfl rfl).trans ?_
  refine (rn_gr d_H_reachOf_9 f_0_15 H.c H.r1).trans ?_
  refine (rn_ld d_H_reachOf_12 rfl rfl rfl rfl).trans ?_
  refine (rn_sI d_H_reachOf_13 nb_0_40 (zinv_s l_0_40 (by decide) (Nat.le_of_ble_eq_true rfl) rfl rfl (Nat.le_of_ble_eq_true rfl)) (Nat.le_of_ble_eq_true rfl) (Or.inl rfl)).trans (zbI_congr fun v4 h3 => ?_)
  refine (rn_sI d_H_reachOf_16 nb_0_52 (zinv_s l_0_52 (by decide) (Nat.le_of_ble_eq_true rfl) rfl rfl (Nat.le_of_ble_eq_true rfl)) (Nat.le_of_ble_eq_true rfl) (Or.inl rfl)).trans (zbI_congr fun v6 h5 => ?_)
  exact rn_ri d_H_reachOf_19 rfl
theorem e_H_turnsBy {X : zX} {a : Nat} {x1 : Int32} {x2 : Int32} {h : zH} (H : isH a) : zcf X m_H_turnsBy [.ref a, .int x1, .int x2] h = (zbI (zcf X m_X_at [.ref (a + 4), .int x1] h) fun v2 h1 => (zbI (zcf X m_X_turned [.int v2, .int x2] h1) fun v4 h3 => (zbV (zcf X m_X_put [.ref (a + 4), .int x1, .int v4] h3) fun h5 => (some (some (.int 1), h5))))) := by
  refine (zcf_run (Nat.le_of_ble_eq_true rfl)).trans ?_
  show zrn X 1 m_H_turnsBy 0 [some (.ref a), some (.int x1), some (.int x2)] [] h = _
  refine (rn_ld d_H_turnsBy_0 rfl rfl rfl rfl).trans ?_
  refine (rn_gr d_H_turnsBy_1 f_0_21 H.c H.r3).trans ?_
  refine (rn_ld d_H_turnsBy_4 rfl rfl rfl rfl).trans ?_
  refine (rn_ld d_H_turnsBy_5 rfl rfl rfl rfl).trans ?_
  refine (rn_gr d_H_turnsBy_6 f_0_21 H.c H.r3).trans ?_
  refine (rn_ld d_H_turnsBy_9 rfl rfl rfl rfl).trans ?_
  refine (rn_sI d_H_turnsBy_10 nb_0_40 (zinv_s l_0_40 (by decide) (Nat.le_of_ble_eq_true rfl) rfl rfl (Nat.le_of_ble_eq_true rfl)) (Nat.le_of_ble_eq_true rfl) (Or.inl rfl)).trans (zbI_congr fun v2 h1 => ?_)
  refine (rn_ld d_H_turnsBy_13 rfl rfl rfl rfl).trans ?_
  refine (rn_sI d_H_turnsBy_14 nb_0_87 (zinv_s l_0_87 (by decide) (Nat.le_of_ble_eq_true rfl) rfl rfl (Nat.le_of_ble_eq_true rfl)) (Nat.le_of_ble_eq_true rfl) (Or.inl rfl)).trans (zbI_congr fun v4 h3 => ?_)
  refine (rn_sV d_H_turnsBy_17 nb_0_44 (zinv_s l_0_44 (by decide) (Nat.le_of_ble_eq_true rfl) rfl rfl (Nat.le_of_ble_eq_true rfl)) (Nat.le_of_ble_eq_true rfl) rfl).trans (zbV_congr fun h5 => ?_)
  refine (rn_push d_H_turnsBy_20 zcs_iconst_1).trans ?_
  exact rn_rz d_H_turnsBy_21 rfl (by decide)
theorem e_H_stepsTo {X : zX} {a : Nat} {x1 : Int32} {x2 : Int32} {h : zH} (H : isH a) : zcf X m_H_stepsTo [.ref a, .int x1, .int x2] h = (if x2 = (-1) then (some (some (.int 0), h)) else (zbI (zcf X m_H_isFree [.ref a, .int x2] h) fun v2 h1 => (if v2 = 0 then (some (some (.int 0), h1)) else (zbV (zcf X m_X_put [.ref (a + 3), .int x1, .int x2] h1) fun h3 => (some (some (.int 1), h3)))))) := by
  refine (zcf_run (Nat.le_of_ble_eq_true rfl)).trans ?_
  show zrn X 2 m_H_stepsTo 0 [some (.ref a), some (.int x1), some (.int x2)] [] h = _
  refine (rn_ld d_H_stepsTo_0 rfl rfl rfl rfl).trans ?_
  refine (rn_push d_H_stepsTo_1 zcs_iconst_m1).trans ?_
  refine (rn_ic_eq d_H_stepsTo_2 (t := 13) (by decide)).trans (zif ?_ ?_)
  · refine (rn_push d_H_stepsTo_13 zcs_iconst_0).trans ?_
    exact rn_rz d_H_stepsTo_14 rfl (by decide)
  · refine (rn_ld d_H_stepsTo_5 rfl rfl rfl rfl).trans ?_
    refine (rn_ld d_H_stepsTo_6 rfl rfl rfl rfl).trans ?_
    refine (rn_vI d_H_stepsTo_7 (zinv_v l_0_76 (by decide) (Nat.le_of_ble_eq_true rfl) rfl rfl H.c (Nat.le_of_ble_eq_true rfl)) (Nat.le_of_ble_eq_true rfl) (Or.inr rfl)).trans (zbI_congr fun v2 h1 => ?_)
    refine (rn_if_ne d_H_stepsTo_10 (t := 15) (by decide)).trans (zif ?_ ?_)
    · refine (rn_push d_H_stepsTo_13 zcs_iconst_0).trans ?_
      exact rn_rz d_H_stepsTo_14 rfl (by decide)
    · refine (rn_ld d_H_stepsTo_15 rfl rfl rfl rfl).trans ?_
      refine (rn_gr d_H_stepsTo_16 f_0_18 H.c H.r2).trans ?_
      refine (rn_ld d_H_stepsTo_19 rfl rfl rfl rfl).trans ?_
      refine (rn_ld d_H_stepsTo_20 rfl rfl rfl rfl).trans ?_
      refine (rn_sV d_H_stepsTo_21 nb_0_44 (zinv_s l_0_44 (by decide) (Nat.le_of_ble_eq_true rfl) rfl rfl (Nat.le_of_ble_eq_true rfl)) (Nat.le_of_ble_eq_true rfl) rfl).trans (zbV_congr fun h3 => ?_)
      refine (rn_push d_H_stepsTo_24 zcs_iconst_1).trans ?_
      exact rn_rz d_H_stepsTo_25 rfl (by decide)
theorem e_T_forget {X : zX} {h : zH} : zcf X m_T_forget [.ref 71] h = (some (none, ((zup h.1 71 1 0), h.2))) := by
  refine (zcf_run (Nat.le_of_ble_eq_true rfl)).trans ?_
  show zrn X 0 m_T_forget 0 [some (.ref 71)] [] h = _
  refine (rn_ld d_T_forget_0 rfl rfl rfl rfl).trans ?_
  refine (rn_push d_T_forget_1 zcs_iconst_0).trans ?_
  refine (rn_pi d_T_forget_2 f_2_15 zc_71).trans ?_
  exact rn_rv d_T_forget_5 rfl
theorem e_P_forget {X : zX} {h : zH} : zcf X m_P_forget [.ref 21] h = (some (none, ((zup h.1 21 1 0), h.2))) := by
  refine (zcf_run (Nat.le_of_ble_eq_true rfl)).trans ?_
  show zrn X 0 m_P_forget 0 [some (.ref 21)] [] h = _
  refine (rn_ld d_P_forget_0 rfl rfl rfl rfl).trans ?_
  refine (rn_push d_P_forget_1 zcs_iconst_0).trans ?_
  refine (rn_pi d_P_forget_2 f_1_17 zc_21).trans ?_
  exact rn_rv d_P_forget_5 rfl
theorem e_H_kindOf {X : zX} {a : Nat} {x1 : Int32} {h : zH} (H : isH a) : zcf X m_H_kindOf [.ref a, .int x1] h = (zbI (zcf X m_X_at [.ref (a + 1), .int x1] h) fun v2 h1 => (some (some (.int v2), h1))) := by
  refine (zcf_run (Nat.le_of_ble_eq_true rfl)).trans ?_
  show zrn X 1 m_H_kindOf 0 [some (.ref a), some (.int x1)] [] h = _
  refine (rn_ld d_H_kindOf_0 rfl rfl rfl rfl).trans ?_
  refine (rn_gr d_H_kindOf_1 f_0_9 H.c H.r0).trans ?_
  refine (rn_ld d_H_kindOf_4 rfl rfl rfl rfl).trans ?_
  refine (rn_sI d_H_kindOf_5 nb_0_40 (zinv_s l_0_40 (by decide) (Nat.le_of_ble_eq_true rfl) rfl rfl (Nat.le_of_ble_eq_true rfl)) (Nat.le_of_ble_eq_true rfl) (Or.inl rfl)).trans (zbI_congr fun v2 h1 => ?_)
  exact rn_ri d_H_kindOf_8 rfl
theorem e_H_figureOf {X : zX} {a : Nat} {x1 : Int32} {h : zH} (H : isH a) : zcf X m_H_figureOf [.ref a, .int x1] h = (zbI (zcf X m_X_at [.ref (a + 2), .int x1] h) fun v2 h1 => (some (some (.int v2), h1))) := by
  refine (zcf_run (Nat.le_of_ble_eq_true rfl)).trans ?_
  show zrn X 1 m_H_figureOf 0 [some (.ref a), some (.int x1)] [] h = _
  refine (rn_ld d_H_figureOf_0 rfl rfl rfl rfl).trans ?_
  refine (rn_gr d_H_figureOf_1 f_0_15 H.c H.r1).trans ?_
  refine (rn_ld d_H_figureOf_4 rfl rfl rfl rfl).trans ?_
  refine (rn_sI d_H_figureOf_5 nb_0_40 (zinv_s l_0_40 (by decide) (Nat.le_of_ble_eq_true rfl) rfl rfl (Nat.le_of_ble_eq_true rfl)) (Nat.le_of_ble_eq_true rfl) (Or.inl rfl)).trans (zbI_congr fun v2 h1 => ?_)
  exact rn_ri d_H_figureOf_8 rfl
theorem e_H_cellOf {X : zX} {a : Nat} {x1 : Int32} {h : zH} (H : isH a) : zcf X m_H_cellOf [.ref a, .int x1] h = (zbI (zcf X m_X_at [.ref (a + 3), .int x1] h) fun v2 h1 => (some (some (.int v2), h1))) := by
  refine (zcf_run (Nat.le_of_ble_eq_true rfl)).trans ?_
  show zrn X 1 m_H_cellOf 0 [some (.ref a), some (.int x1)] [] h = _
  refine (rn_ld d_H_cellOf_0 rfl rfl rfl rfl).trans ?_
  refine (rn_gr d_H_cellOf_1 f_0_18 H.c H.r2).trans ?_
  refine (rn_ld d_H_cellOf_4 rfl rfl rfl rfl).trans ?_
  refine (rn_sI d_H_cellOf_5 nb_0_40 (zinv_s l_0_40 (by decide) (Nat.le_of_ble_eq_true rfl) rfl rfl (Nat.le_of_ble_eq_true rfl)) (Nat.le_of_ble_eq_true rfl) (Or.inl rfl)).trans (zbI_congr fun v2 h1 => ?_)
  exact rn_ri d_H_cellOf_8 rfl
theorem e_H_facesOf {X : zX} {a : Nat} {x1 : Int32} {h : zH} (H : isH a) : zcf X m_H_facesOf [.ref a, .int x1] h = (zbI (zcf X m_X_at [.ref (a + 4), .int x1] h) fun v2 h1 => (some (some (.int v2), h1))) := by
  refine (zcf_run (Nat.le_of_ble_eq_true rfl)).trans ?_
  show zrn X 1 m_H_facesOf 0 [some (.ref a), some (.int x1)] [] h = _
  refine (rn_ld d_H_facesOf_0 rfl rfl rfl rfl).trans ?_
  refine (rn_gr d_H_facesOf_1 f_0_21 H.c H.r3).trans ?_
  refine (rn_ld d_H_facesOf_4 rfl rfl rfl rfl).trans ?_
  refine (rn_sI d_H_facesOf_5 nb_0_40 (zinv_s l_0_40 (by decide) (Nat.le_of_ble_eq_true rfl) rfl rfl (Nat.le_of_ble_eq_true rfl)) (Nat.le_of_ble_eq_true rfl) (Or.inl rfl)).trans (zbI_congr fun v2 h1 => ?_)
  exact rn_ri d_H_facesOf_8 rfl
theorem e_H_startsOf {X : zX} {a : Nat} {x1 : Int32} {h : zH} (H : isH a) : zcf X m_H_startsOf [.ref a, .int x1] h = (zbI (zcf X m_X_at [.ref (a + 5), .int x1] h) fun v2 h1 => (some (some (.int v2), h1))) := by
  refine (zcf_run (Nat.le_of_ble_eq_true rfl)).trans ?_
  show zrn X 1 m_H_startsOf 0 [some (.ref a), some (.int x1)] [] h = _
  refine (rn_ld d_H_startsOf_0 rfl rfl rfl rfl).trans ?_
  refine (rn_gr d_H_startsOf_1 f_0_24 H.c H.r4).trans ?_
  refine (rn_ld d_H_startsOf_4 rfl rfl rfl rfl).trans ?_
  refine (rn_sI d_H_startsOf_5 nb_0_40 (zinv_s l_0_40 (by decide) (Nat.le_of_ble_eq_true rfl) rfl rfl (Nat.le_of_ble_eq_true rfl)) (Nat.le_of_ble_eq_true rfl) (Or.inl rfl)).trans (zbI_congr fun v2 h1 => ?_)
  exact rn_ri d_H_startsOf_8 rfl
theorem e_P_keep {X : zX} {a1 : Nat} {w : Nat} {h : zH} (H1 : isH a1) (Hw : isH w) (PW : zcf X m_P_placeAt [.ref 21, .int (h.1 21 2)] h = some (some (.ref w), h)) : zcf X m_P_keep [.ref 21, .ref a1] h = (zbV (zcf X m_H_become [.ref w, .ref a1] h) fun h2 => (some (none, ((zup (zup h2.1 21 2 (zrem ((h2.1 21 2) + 1) 8)) 21 1 (if (((zup h2.1 21 2 (zrem ((h2.1 21 2) + 1) 8)) 21 1) + 1) < 8 then (((zup h2.1 21 2 (zrem ((h2.1 21 2) + 1) 8)) 21 1) + 1) else 8)), h2.2)))) := by
  refine (zcf_run (Nat.le_of_ble_eq_true rfl)).trans ?_
  show zrn X 2 m_P_keep 0 [some (.ref 21), some (.ref a1), none] [] h = _
  refine (rn_ld d_P_keep_0 rfl rfl rfl rfl).trans ?_
  refine (rn_ld d_P_keep_1 rfl rfl rfl rfl).trans ?_
  refine (rn_gi d_P_keep_2 f_1_21 zc_21).trans ?_
  refine (rn_vR d_P_keep_5 (zinv_v l_1_25 (by decide) (Nat.le_of_ble_eq_true rfl) rfl rfl zc_21 (Nat.le_of_ble_eq_true rfl)) (Nat.le_of_ble_eq_true rfl) rfl).trans ?_
  refine (congrArg (fun o => zbR o _) PW).trans ?_
  refine zbR_some.trans ?_
  refine (rn_st d_P_keep_8 rfl rfl rfl (by decide) rfl (Nat.le_of_ble_eq_true rfl) (ls' := [some (.ref 21), some (.ref a1), some (.ref w)]) rfl).trans ?_
  refine (rn_ld d_P_keep_9 rfl rfl rfl rfl).trans ?_
  refine (rn_nu d_P_keep_10).trans ?_
  refine (rn_ld d_P_keep_13 rfl rfl rfl rfl).trans ?_
  refine (rn_ld d_P_keep_14 rfl rfl rfl rfl).trans ?_
  refine (rn_vV d_P_keep_15 (zinv_v l_1_29 (by decide) (Nat.le_of_ble_eq_true rfl) rfl rfl Hw.c (Nat.le_of_ble_eq_true rfl)) (Nat.le_of_ble_eq_true rfl) rfl).trans (zbV_congr fun h2 => ?_)
  refine (rn_ld d_P_keep_18 rfl rfl rfl rfl).trans ?_
  refine (rn_ld d_P_keep_19 rfl rfl rfl rfl).trans ?_
  refine (rn_gi d_P_keep_20 f_1_21 zc_21).trans ?_
  refine (rn_push d_P_keep_23 zcs_iconst_1).trans ?_
  refine (rn_a2 d_P_keep_24 rfl).trans ?_
  refine (rn_push d_P_keep_25 zcs_bipush_8).trans ?_
  refine (rn_a2 d_P_keep_27 (zar_rem (by decide))).trans ?_
  refine (rn_pi d_P_keep_28 f_1_21 zc_21).trans ?_
  refine (rn_ld d_P_keep_31 rfl rfl rfl rfl).trans ?_
  refine (rn_push d_P_keep_32 zcs_bipush_8).trans ?_
  refine (rn_ld d_P_keep_34 rfl rfl rfl rfl).trans ?_
  refine (rn_gi d_P_keep_35 f_1_17 zc_21).trans ?_
  refine (rn_push d_P_keep_38 zcs_iconst_1).trans ?_
  refine (rn_a2 d_P_keep_39 rfl).trans ?_
  refine (rn_min d_P_keep_40 (zb_1_33) (Nat.le_of_ble_eq_true rfl)).trans ?_
  refine (rn_pi d_P_keep_43 f_1_17 zc_21).trans ?_
  exact rn_rv d_P_keep_46 rfl
theorem b_H_startsTogether_4 {X : zX} {a : Nat} {x1 : Int32} {x2 : Int32} {h : zH} (H : isH a) : zrn X 1 m_H_startsTogether 4 [some (.ref a), some (.int x1), some (.int x2)] [] h = (if (h.1 a 5) ≤ x2 then (some (some (.int x1), h)) else (zbI (zcf X m_X_at [.ref (a + 5), .int x2] h) fun v2 h1 => zrn X 1 m_H_startsTogether 4 [some (.ref a), some (.int (x1 + v2)), some (.int (x2 + 1))] [] h1)) := by
  refine (rn_ld d_H_startsTogether_4 rfl rfl rfl rfl).trans ?_
  refine (rn_ld d_H_startsTogether_5 rfl rfl rfl rfl).trans ?_
  refine (rn_gi d_H_startsTogether_6 f_0_27 H.c).trans ?_
  refine (rn_ic_ge d_H_startsTogether_9 (t := 29) (by decide)).trans (zif ?_ ?_)
  · refine (rn_ld d_H_startsTogether_29 rfl rfl rfl rfl).trans ?_
    exact rn_ri d_H_startsTogether_30 rfl
  · refine (rn_ld d_H_startsTogether_12 rfl rfl rfl rfl).trans ?_
    refine (rn_ld d_H_startsTogether_13 rfl rfl rfl rfl).trans ?_
    refine (rn_gr d_H_startsTogether_14 f_0_24 H.c H.r4).trans ?_
    refine (rn_ld d_H_startsTogether_17 rfl rfl rfl rfl).trans ?_
    refine (rn_sI d_H_startsTogether_18 nb_0_40 (zinv_s l_0_40 (by decide) (Nat.le_of_ble_eq_true rfl) rfl rfl (Nat.le_of_ble_eq_true rfl)) (Nat.le_of_ble_eq_true rfl) (Or.inl rfl)).trans (zbI_congr fun v2 h1 => ?_)
    refine (rn_a2 d_H_startsTogether_21 rfl).trans ?_
    refine (rn_st d_H_startsTogether_22 rfl rfl rfl (by decide) rfl (Nat.le_of_ble_eq_true rfl) (ls' := [some (.ref a), some (.int (x1 + v2)), some (.int x2)]) rfl).trans ?_
    refine (rn_inc d_H_startsTogether_23 rfl (c := 1) (by decide) (ls' := [some (.ref a), some (.int (x1 + v2)), some (.int (x2 + 1))]) rfl).trans ?_
    refine (rn_goto d_H_startsTogether_26 (t := 4) (by decide)).trans ?_
    rfl
theorem e_H_startsTogether {X : zX} {a : Nat} {h : zH} (H : isH a) : zcf X m_H_startsTogether [.ref a] h = zrn X 1 m_H_startsTogether 4 [some (.ref a), some (.int 0), some (.int 0)] [] h := by
  refine (zcf_run (Nat.le_of_ble_eq_true rfl)).trans ?_
  show zrn X 1 m_H_startsTogether 0 [some (.ref a), none, none] [] h = _
  refine (rn_push d_H_startsTogether_0 zcs_iconst_0).trans ?_
  refine (rn_st d_H_startsTogether_1 rfl rfl rfl (by decide) rfl (Nat.le_of_ble_eq_true rfl) (ls' := [some (.ref a), some (.int 0), none]) rfl).trans ?_
  refine (rn_push d_H_startsTogether_2 zcs_iconst_0).trans ?_
  refine (rn_st d_H_startsTogether_3 rfl rfl rfl (by decide) rfl (Nat.le_of_ble_eq_true rfl) (ls' := [some (.ref a), some (.int 0), some (.int 0)]) rfl).trans ?_
  rfl
theorem e_P_giveBack {X : zX} {w : Nat} {h : zH} (Hw : isH w) (PW : zcf X m_P_placeAt [.ref 21, .int ((zup (zup h.1 21 2 (zrem (((h.1 21 2) + 8) - 1) 8)) 21 1 (((zup h.1 21 2 (zrem (((h.1 21 2) + 8) - 1) 8)) 21 1) - 1)) 21 2)] ((zup (zup h.1 21 2 (zrem (((h.1 21 2) + 8) - 1) 8)) 21 1 (((zup h.1 21 2 (zrem (((h.1 21 2) + 8) - 1) 8)) 21 1) - 1)), h.2) = some (some (.ref w), ((zup (zup h.1 21 2 (zrem (((h.1 21 2) + 8) - 1) 8)) 21 1 (((zup h.1 21 2 (zrem (((h.1 21 2) + 8) - 1) 8)) 21 1) - 1)), h.2))) : zcf X m_P_giveBack [.ref 21] h = (if 1 ≤ (h.1 21 1) then (some (some (.ref w), ((zup (zup h.1 21 2 (zrem (((h.1 21 2) + 8) - 1) 8)) 21 1 (((zup h.1 21 2 (zrem (((h.1 21 2) + 8) - 1) 8)) 21 1) - 1)), h.2))) else none) := by
  refine (zcf_run (Nat.le_of_ble_eq_true rfl)).trans ?_
  show zrn X 1 m_P_giveBack 0 [some (.ref 21)] [] h = _
  refine (rn_ld d_P_giveBack_0 rfl rfl rfl rfl).trans ?_
  refine (rn_gi d_P_giveBack_1 f_1_17 zc_21).trans ?_
  refine (rn_push d_P_giveBack_4 zcs_iconst_1).trans ?_
  refine (rn_ic_ge d_P_giveBack_5 (t := 10) (by decide)).trans (zif ?_ ?_)
  · refine (rn_ld d_P_giveBack_10 rfl rfl rfl rfl).trans ?_
    refine (rn_ld d_P_giveBack_11 rfl rfl rfl rfl).trans ?_
    refine (rn_gi d_P_giveBack_12 f_1_21 zc_21).trans ?_
    refine (rn_push d_P_giveBack_15 zcs_bipush_8).trans ?_
    refine (rn_a2 d_P_giveBack_17 rfl).trans ?_
    refine (rn_push d_P_giveBack_18 zcs_iconst_1).trans ?_
    refine (rn_a2 d_P_giveBack_19 rfl).trans ?_
    refine (rn_push d_P_giveBack_20 zcs_bipush_8).trans ?_
    refine (rn_a2 d_P_giveBack_22 (zar_rem (by decide))).trans ?_
    refine (rn_pi d_P_giveBack_23 f_1_21 zc_21).trans ?_
    refine (rn_ld d_P_giveBack_26 rfl rfl rfl rfl).trans ?_
    refine (rn_dup d_P_giveBack_27 rfl).trans ?_
    refine (rn_gi d_P_giveBack_28 f_1_17 zc_21).trans ?_
    refine (rn_push d_P_giveBack_31 zcs_iconst_1).trans ?_
    refine (rn_a2 d_P_giveBack_32 rfl).trans ?_
    refine (rn_pi d_P_giveBack_33 f_1_17 zc_21).trans ?_
    refine (rn_ld d_P_giveBack_36 rfl rfl rfl rfl).trans ?_
    refine (rn_ld d_P_giveBack_37 rfl rfl rfl rfl).trans ?_
    refine (rn_gi d_P_giveBack_38 f_1_21 zc_21).trans ?_
    refine (rn_vR d_P_giveBack_41 (zinv_v l_1_25 (by decide) (Nat.le_of_ble_eq_true rfl) rfl rfl zc_21 (Nat.le_of_ble_eq_true rfl)) (Nat.le_of_ble_eq_true rfl) rfl).trans ?_
    refine (congrArg (fun o => zbR o _) PW).trans ?_
    refine zbR_some.trans ?_
    exact rn_rr d_P_giveBack_44 rfl
  · exact (rn_s (ls' := [some (.ref 21)]) (st' := [.null]) (h' := h) d_P_giveBack_8 rfl).trans (rn_n d_P_giveBack_9 rfl rfl rfl)
theorem b_H_watchers_4 {X : zX} {a : Nat} {x1 : Int32} {x2 : Int32} {x3 : Int32} {h : zH} (H : isH a) : zrn X 3 m_H_watchers 4 [some (.ref a), some (.int x1), some (.int x2), some (.int x3)] [] h = (if (h.1 a 5) ≤ x3 then (some (some (.int x2), h)) else (zbI (zcf X m_H_ahead [.ref a, .int x3] h) fun v2 h1 => (if v2 = x1 then (zbI (zcf X m_X_bitOf [.int x3] h1) fun v4 h3 => zrn X 3 m_H_watchers 4 [some (.ref a), some (.int x1), some (.int (x2 ||| v4)), some (.int (x3 + 1))] [] h3) else zrn X 3 m_H_watchers 4 [some (.ref a), some (.int x1), some (.int (x2 ||| 0)), some (.int (x3 + 1))] [] h1))) := by
  refine (rn_ld d_H_watchers_4 rfl rfl rfl rfl).trans ?_
  refine (rn_ld d_H_watchers_5 rfl rfl rfl rfl).trans ?_
  refine (rn_gi d_H_watchers_6 f_0_27 H.c).trans ?_
  refine (rn_ic_ge d_H_watchers_9 (t := 38) (by decide)).trans (zif ?_ ?_)
  · refine (rn_ld d_H_watchers_38 rfl rfl rfl rfl).trans ?_
    exact rn_ri d_H_watchers_39 rfl
  · refine (rn_ld d_H_watchers_12 rfl rfl rfl rfl).trans ?_
    refine (rn_ld d_H_watchers_13 rfl rfl rfl rfl).trans ?_
    refine (rn_ld d_H_watchers_14 rfl rfl rfl rfl).trans ?_
    refine (rn_vI d_H_watchers_15 (zinv_v l_0_93 (by decide) (Nat.le_of_ble_eq_true rfl) rfl rfl H.c (Nat.le_of_ble_eq_true rfl)) (Nat.le_of_ble_eq_true rfl) (Or.inl rfl)).trans (zbI_congr fun v2 h1 => ?_)
    refine (rn_ld d_H_watchers_18 rfl rfl rfl rfl).trans ?_
    refine (rn_ic_ne d_H_watchers_19 (t := 29) (by decide)).trans (zif ?_ ?_)
    · refine (rn_ld d_H_watchers_22 rfl rfl rfl rfl).trans ?_
      refine (rn_sI d_H_watchers_23 nb_0_48 (zinv_s l_0_48 (by decide) (Nat.le_of_ble_eq_true rfl) rfl rfl (Nat.le_of_ble_eq_true rfl)) (Nat.le_of_ble_eq_true rfl) (Or.inl rfl)).trans (zbI_congr fun v4 h3 => ?_)
      refine (rn_goto d_H_watchers_26 (t := 30) (by decide)).trans ?_
      refine (rn_a2 d_H_watchers_30 rfl).trans ?_
      refine (rn_st d_H_watchers_31 rfl rfl rfl (by decide) rfl (Nat.le_of_ble_eq_true rfl) (ls' := [some (.ref a), some (.int x1), some (.int (x2 ||| v4)), some (.int x3)]) rfl).trans ?_
      refine (rn_inc d_H_watchers_32 rfl (c := 1) (by decide) (ls' := [some (.ref a), some (.int x1), some (.int (x2 ||| v4)), some (.int (x3 + 1))]) rfl).trans ?_
      refine (rn_goto d_H_watchers_35 (t := 4) (by decide)).trans ?_
      rfl
    · refine (rn_push d_H_watchers_29 zcs_iconst_0).trans ?_
      refine (rn_a2 d_H_watchers_30 rfl).trans ?_
      refine (rn_st d_H_watchers_31 rfl rfl rfl (by decide) rfl (Nat.le_of_ble_eq_true rfl) (ls' := [some (.ref a), some (.int x1), some (.int (x2 ||| 0)), some (.int x3)]) rfl).trans ?_
      refine (rn_inc d_H_watchers_32 rfl (c := 1) (by decide) (ls' := [some (.ref a), some (.int x1), some (.int (x2 ||| 0)), some (.int (x3 + 1))]) rfl).trans ?_
      refine (rn_goto d_H_watchers_35 (t := 4) (by decide)).trans ?_
      rfl
theorem e_H_watchers {X : zX} {a : Nat} {x1 : Int32} {h : zH} (H : isH a) : zcf X m_H_watchers [.ref a, .int x1] h = zrn X 3 m_H_watchers 4 [some (.ref a), some (.int x1), some (.int 0), some (.int 0)] [] h := by
  refine (zcf_run (Nat.le_of_ble_eq_true rfl)).trans ?_
  show zrn X 3 m_H_watchers 0 [some (.ref a), some (.int x1), none, none] [] h = _
  refine (rn_push d_H_watchers_0 zcs_iconst_0).trans ?_
  refine (rn_st d_H_watchers_1 rfl rfl rfl (by decide) rfl (Nat.le_of_ble_eq_true rfl) (ls' := [some (.ref a), some (.int x1), some (.int 0), none]) rfl).trans ?_
  refine (rn_push d_H_watchers_2 zcs_iconst_0).trans ?_
  refine (rn_st d_H_watchers_3 rfl rfl rfl (by decide) rfl (Nat.le_of_ble_eq_true rfl) (ls' := [some (.ref a), some (.int x1), some (.int 0), some (.int 0)]) rfl).trans ?_
  rfl
theorem e_H_everybody {X : zX} {a : Nat} {h : zH} (H : isH a) : zcf X m_H_everybody [.ref a] h = (zbI (zcf X m_X_bitOf [.int (h.1 a 5)] h) fun v2 h1 => (some (some (.int (v2 - 1)), h1))) := by
  refine (zcf_run (Nat.le_of_ble_eq_true rfl)).trans ?_
  show zrn X 1 m_H_everybody 0 [some (.ref a)] [] h = _
  refine (rn_ld d_H_everybody_0 rfl rfl rfl rfl).trans ?_
  refine (rn_gi d_H_everybody_1 f_0_27 H.c).trans ?_
  refine (rn_sI d_H_everybody_4 nb_0_48 (zinv_s l_0_48 (by decide) (Nat.le_of_ble_eq_true rfl) rfl rfl (Nat.le_of_ble_eq_true rfl)) (Nat.le_of_ble_eq_true rfl) (Or.inl rfl)).trans (zbI_congr fun v2 h1 => ?_)
  refine (rn_push d_H_everybody_7 zcs_iconst_1).trans ?_
  refine (rn_a2 d_H_everybody_8 rfl).trans ?_
  exact rn_ri d_H_everybody_9 rfl
theorem b_H_chainOf_14 {X : zX} {a : Nat} {x1 : Int32} {x2 : Int32} {x3 : Int32} {x4 : Int32} {x5 : Int32} {x6 : Int32} {x7 : Int32} {h : zH} (H : isH a) : zrn X 3 m_H_chainOf 14 [some (.ref a), some (.int x1), some (.int x2), some (.int x3), some (.int x4), some (.int x5), some (.int x6), some (.int x7)] [] h = (if 6 ≤ x7 then (if x2 = 0 then (some (some (.int x4), h)) else (if x2 = 2 then (some (some (.int x5), h)) else (if x6 = (-9) then (some (some (.int 0), h)) else (some (some (.int 1), h))))) else (if x6 = (-9) then (if x2 = 0 then (some (some (.int x4), h)) else (if x2 = 2 then (some (some (.int x5), h)) else (if x6 = (-9) then (some (some (.int 0), h)) else (some (some (.int 1), h))))) else (zbI (zcf X m_X_bitOf [.int x6] h) fun v2 h1 => (if (x3 &&& v2) = 0 then (zbI (zcf X m_X_bitOf [.int x6] h1) fun v4 h3 => (zbI (zcf X m_H_inLens [.ref a, .int x6] h3) fun v6 h5 => zrn X 3 m_H_chainOf 14 [some (.ref a), some (.int x1), some (.int x2), some (.int (x3 ||| v4)), some (.int (x4 + 1)), some (.int x6), some (.int v6), some (.int (x7 + 1))] [] h5)) else (if x2 = 0 then (some (some (.int x4), h1)) else (if x2 = 2 then (some (some (.int x5), h1)) else (if x6 = (-9) then (some (some (.int 0), h1)) else (some (some (.int 1), h1))))))))) := by
  refine (rn_ld d_H_chainOf_14 rfl rfl rfl rfl).trans ?_
  refine (rn_push d_H_chainOf_16 zcs_bipush_6).trans ?_
  refine (rn_ic_ge d_H_chainOf_18 (t := 67) (by decide)).trans (zif ?_ ?_)
  · refine (rn_ld d_H_chainOf_67 rfl rfl rfl rfl).trans ?_
    refine (rn_if_ne d_H_chainOf_68 (t := 74) (by decide)).trans (zif ?_ ?_)
    · refine (rn_ld d_H_chainOf_71 rfl rfl rfl rfl).trans ?_
      exact rn_ri d_H_chainOf_73 rfl
    · refine (rn_ld d_H_chainOf_74 rfl rfl rfl rfl).trans ?_
      refine (rn_push d_H_chainOf_75 zcs_iconst_2).trans ?_
      refine (rn_ic_ne d_H_chainOf_76 (t := 84) (by decide)).trans (zif ?_ ?_)
      · refine (rn_ld d_H_chainOf_79 rfl rfl rfl rfl).trans ?_
        refine (rn_goto d_H_chainOf_81 (t := 96) (by decide)).trans ?_
        exact rn_ri d_H_chainOf_96 rfl
      · refine (rn_ld d_H_chainOf_84 rfl rfl rfl rfl).trans ?_
        refine (rn_push d_H_chainOf_86 zcs_bipush_m9).trans ?_
        refine (rn_ic_eq d_H_chainOf_88 (t := 95) (by decide)).trans (zif ?_ ?_)
        · refine (rn_push d_H_chainOf_95 zcs_iconst_0).trans ?_
          exact rn_ri d_H_chainOf_96 rfl
        · refine (rn_push d_H_chainOf_91 zcs_iconst_1).trans ?_
          refine (rn_goto d_H_chainOf_92 (t := 96) (by decide)).trans ?_
          exact rn_ri d_H_chainOf_96 rfl
  · refine (rn_ld d_H_chainOf_21 rfl rfl rfl rfl).trans ?_
    refine (rn_push d_H_chainOf_23 zcs_bipush_m9).trans ?_
    refine (rn_ic_eq d_H_chainOf_25 (t := 67) (by decide)).trans (zif ?_ ?_)
    · refine (rn_ld d_H_chainOf_67 rfl rfl rfl rfl).trans ?_
      refine (rn_if_ne d_H_chainOf_68 (t := 74) (by decide)).trans (zif ?_ ?_)
      · refine (rn_ld d_H_chainOf_71 rfl rfl rfl rfl).trans ?_
        exact rn_ri d_H_chainOf_73 rfl
      · refine (rn_ld d_H_chainOf_74 rfl rfl rfl rfl).trans ?_
        refine (rn_push d_H_chainOf_75 zcs_iconst_2).trans ?_
        refine (rn_ic_ne d_H_chainOf_76 (t := 84) (by decide)).trans (zif ?_ ?_)
        · refine (rn_ld d_H_chainOf_79 rfl rfl rfl rfl).trans ?_
          refine (rn_goto d_H_chainOf_81 (t := 96) (by decide)).trans ?_
          exact rn_ri d_H_chainOf_96 rfl
        · refine (rn_ld d_H_chainOf_84 rfl rfl rfl rfl).trans ?_
          refine (rn_push d_H_chainOf_86 zcs_bipush_m9).trans ?_
          refine (rn_ic_eq d_H_chainOf_88 (t := 95) (by decide)).trans (zif ?_ ?_)
          · refine (rn_push d_H_chainOf_95 zcs_iconst_0).trans ?_
            exact rn_ri d_H_chainOf_96 rfl
          · refine (rn_push d_H_chainOf_91 zcs_iconst_1).trans ?_
            refine (rn_goto d_H_chainOf_92 (t := 96) (by decide)).trans ?_
            exact rn_ri d_H_chainOf_96 rfl
    · refine (rn_ld d_H_chainOf_28 rfl rfl rfl rfl).trans ?_
      refine (rn_ld d_H_chainOf_29 rfl rfl rfl rfl).trans ?_
      refine (rn_sI d_H_chainOf_31 nb_0_48 (zinv_s l_0_48 (by decide) (Nat.le_of_ble_eq_true rfl) rfl rfl (Nat.le_of_ble_eq_true rfl)) (Nat.le_of_ble_eq_true rfl) (Or.inl rfl)).trans (zbI_congr fun v2 h1 => ?_)
      refine (rn_a2 d_H_chainOf_34 rfl).trans ?_
      refine (rn_if_ne d_H_chainOf_35 (t := 67) (by decide)).trans (zif ?_ ?_)
      · refine (rn_ld d_H_chainOf_38 rfl rfl rfl rfl).trans ?_
        refine (rn_ld d_H_chainOf_39 rfl rfl rfl rfl).trans ?_
        refine (rn_sI d_H_chainOf_41 nb_0_48 (zinv_s l_0_48 (by decide) (Nat.le_of_ble_eq_true rfl) rfl rfl (Nat.le_of_ble_eq_true rfl)) (Nat.le_of_ble_eq_true rfl) (Or.inl rfl)).trans (zbI_congr fun v4 h3 => ?_)
        refine (rn_a2 d_H_chainOf_44 rfl).trans ?_
        refine (rn_st d_H_chainOf_45 rfl rfl rfl (by decide) rfl (Nat.le_of_ble_eq_true rfl) (ls' := [some (.ref a), some (.int x1), some (.int x2), some (.int (x3 ||| v4)), some (.int x4), some (.int x5), some (.int x6), some (.int x7)]) rfl).trans ?_
        refine (rn_inc d_H_chainOf_46 rfl (c := 1) (by decide) (ls' := [some (.ref a), some (.int x1), some (.int x2), some (.int (x3 ||| v4)), some (.int (x4 + 1)), some (.int x5), some (.int x6), some (.int x7)]) rfl).trans ?_
        refine (rn_ld d_H_chainOf_49 rfl rfl rfl rfl).trans ?_
        refine (rn_st d_H_chainOf_51 rfl rfl rfl (by decide) rfl (Nat.le_of_ble_eq_true rfl) (ls' := [some (.ref a), some (.int x1), some (.int x2), some (.int (x3 ||| v4)), some (.int (x4 + 1)), some (.int x6), some (.int x6), some (.int x7)]) rfl).trans ?_
        refine (rn_ld d_H_chainOf_53 rfl rfl rfl rfl).trans ?_
        refine (rn_ld d_H_chainOf_54 rfl rfl rfl rfl).trans ?_
        refine (rn_vI d_H_chainOf_56 (zinv_v l_0_96 (by decide) (Nat.le_of_ble_eq_true rfl) rfl rfl H.c (Nat.le_of_ble_eq_true rfl)) (Nat.le_of_ble_eq_true rfl) (Or.inl rfl)).trans (zbI_congr fun v6 h5 => ?_)
        refine (rn_st d_H_chainOf_59 rfl rfl rfl (by decide) rfl (Nat.le_of_ble_eq_true rfl) (ls' := [some (.ref a), some (.int x1), some (.int x2), some (.int (x3 ||| v4)), some (.int (x4 + 1)), some (.int x6), some (.int v6), some (.int x7)]) rfl).trans ?_
        refine (rn_inc d_H_chainOf_61 rfl (c := 1) (by decide) (ls' := [some (.ref a), some (.int x1), some (.int x2), some (.int (x3 ||| v4)), some (.int (x4 + 1)), some (.int x6), some (.int v6), some (.int (x7 + 1))]) rfl).trans ?_
        refine (rn_goto d_H_chainOf_64 (t := 14) (by decide)).trans ?_
        rfl
      · refine (rn_ld d_H_chainOf_67 rfl rfl rfl rfl).trans ?_
        refine (rn_if_ne d_H_chainOf_68 (t := 74) (by decide)).trans (zif ?_ ?_)
        · refine (rn_ld d_H_chainOf_71 rfl rfl rfl rfl).trans ?_
          exact rn_ri d_H_chainOf_73 rfl
        · refine (rn_ld d_H_chainOf_74 rfl rfl rfl rfl).trans ?_
          refine (rn_push d_H_chainOf_75 zcs_iconst_2).trans ?_
          refine (rn_ic_ne d_H_chainOf_76 (t := 84) (by decide)).trans (zif ?_ ?_)
          · refine (rn_ld d_H_chainOf_79 rfl rfl rfl rfl).trans ?_
            refine (rn_goto d_H_chainOf_81 (t := 96) (by decide)).trans ?_
            exact rn_ri d_H_chainOf_96 rfl
          · refine (rn_ld d_H_chainOf_84 rfl rfl rfl rfl).trans ?_
            refine (rn_push d_H_chainOf_86 zcs_bipush_m9).trans ?_
            refine (rn_ic_eq d_H_chainOf_88 (t := 95) (by decide)).trans (zif ?_ ?_)
            · refine (rn_push d_H_chainOf_95 zcs_iconst_0).trans ?_
              exact rn_ri d_H_chainOf_96 rfl
            · refine (rn_push d_H_chainOf_91 zcs_iconst_1).trans ?_
              refine (rn_goto d_H_chainOf_92 (t := 96) (by decide)).trans ?_
              exact rn_ri d_H_chainOf_96 rfl
theorem e_H_chainOf {X : zX} {a : Nat} {x1 : Int32} {x2 : Int32} {h : zH} (H : isH a) : zcf X m_H_chainOf [.ref a, .int x1, .int x2] h = zrn X 3 m_H_chainOf 14 [some (.ref a), some (.int x1), some (.int x2), some (.int 0), some (.int 0), some (.int x1), some (.int x1), some (.int 0)] [] h := by
  refine (zcf_run (Nat.le_of_ble_eq_true rfl)).trans ?_
  show zrn X 3 m_H_chainOf 0 [some (.ref a), some (.int x1), some (.int x2), none, none, none, none, none] [] h = _
  refine (rn_push d_H_chainOf_0 zcs_iconst_0).trans ?_
  refine (rn_st d_H_chainOf_1 rfl rfl rfl (by decide) rfl (Nat.le_of_ble_eq_true rfl) (ls' := [some (.ref a), some (.int x1), some (.int x2), some (.int 0), none, none, none, none]) rfl).trans ?_
  refine (rn_push d_H_chainOf_2 zcs_iconst_0).trans ?_
  refine (rn_st d_H_chainOf_3 rfl rfl rfl (by decide) rfl (Nat.le_of_ble_eq_true rfl) (ls' := [some (.ref a), some (.int x1), some (.int x2), some (.int 0), some (.int 0), none, none, none]) rfl).trans ?_
  refine (rn_ld d_H_chainOf_5 rfl rfl rfl rfl).trans ?_
  refine (rn_st d_H_chainOf_6 rfl rfl rfl (by decide) rfl (Nat.le_of_ble_eq_true rfl) (ls' := [some (.ref a), some (.int x1), some (.int x2), some (.int 0), some (.int 0), some (.int x1), none, none]) rfl).trans ?_
  refine (rn_ld d_H_chainOf_8 rfl rfl rfl rfl).trans ?_
  refine (rn_st d_H_chainOf_9 rfl rfl rfl (by decide) rfl (Nat.le_of_ble_eq_true rfl) (ls' := [some (.ref a), some (.int x1), some (.int x2), some (.int 0), some (.int 0), some (.int x1), some (.int x1), none]) rfl).trans ?_
  refine (rn_push d_H_chainOf_11 zcs_iconst_0).trans ?_
  refine (rn_st d_H_chainOf_12 rfl rfl rfl (by decide) rfl (Nat.le_of_ble_eq_true rfl) (ls' := [some (.ref a), some (.int x1), some (.int x2), some (.int 0), some (.int 0), some (.int x1), some (.int x1), some (.int 0)]) rfl).trans ?_
  rfl
theorem b_H_seenBy_4 {X : zX} {a : Nat} {x1 : Int32} {x2 : Int32} {x3 : Int32} {h : zH} (H : isH a) : zrn X 3 m_H_seenBy 4 [some (.ref a), some (.int x1), some (.int x2), some (.int x3)] [] h = (if (h.1 a 5) ≤ x3 then (some (some (.int x2), h)) else (zbI (zcf X m_X_bitOf [.int x3] h) fun v2 h1 => (if (x1 &&& v2) = 0 then zrn X 3 m_H_seenBy 4 [some (.ref a), some (.int x1), some (.int x2), some (.int (x3 + 1))] [] h1 else (zbI (zcf X m_H_ahead [.ref a, .int x3] h1) fun v4 h3 => (zbI (zcf X m_X_bitOf [.int v4] h3) fun v6 h5 => (zbI (zcf X m_H_inLens [.ref a, .int x3] h5) fun v8 h7 => (zbI (zcf X m_X_bitOf [.int v8] h7) fun v10 h9 => zrn X 3 m_H_seenBy 4 [some (.ref a), some (.int x1), some (.int (x2 ||| (v6 ||| v10))), some (.int (x3 + 1))] [] h9))))))) := by
  refine (rn_ld d_H_seenBy_4 rfl rfl rfl rfl).trans ?_
  refine (rn_ld d_H_seenBy_5 rfl rfl rfl rfl).trans ?_
  refine (rn_gi d_H_seenBy_6 f_0_27 H.c).trans ?_
  refine (rn_ic_ge d_H_seenBy_9 (t := 47) (by decide)).trans (zif ?_ ?_)
  · refine (rn_ld d_H_seenBy_47 rfl rfl rfl rfl).trans ?_
    exact rn_ri d_H_seenBy_48 rfl
  · refine (rn_ld d_H_seenBy_12 rfl rfl rfl rfl).trans ?_
    refine (rn_ld d_H_seenBy_13 rfl rfl rfl rfl).trans ?_
    refine (rn_sI d_H_seenBy_14 nb_0_48 (zinv_s l_0_48 (by decide) (Nat.le_of_ble_eq_true rfl) rfl rfl (Nat.le_of_ble_eq_true rfl)) (Nat.le_of_ble_eq_true rfl) (Or.inl rfl)).trans (zbI_congr fun v2 h1 => ?_)
    refine (rn_a2 d_H_seenBy_17 rfl).trans ?_
    refine (rn_if_eq d_H_seenBy_18 (t := 41) (by decide)).trans (zif ?_ ?_)
    · refine (rn_inc d_H_seenBy_41 rfl (c := 1) (by decide) (ls' := [some (.ref a), some (.int x1), some (.int x2), some (.int (x3 + 1))]) rfl).trans ?_
      refine (rn_goto d_H_seenBy_44 (t := 4) (by decide)).trans ?_
      rfl
    · refine (rn_ld d_H_seenBy_21 rfl rfl rfl rfl).trans ?_
      refine (rn_ld d_H_seenBy_22 rfl rfl rfl rfl).trans ?_
      refine (rn_ld d_H_seenBy_23 rfl rfl rfl rfl).trans ?_
      refine (rn_vI d_H_seenBy_24 (zinv_v l_0_93 (by decide) (Nat.le_of_ble_eq_true rfl) rfl rfl H.c (Nat.le_of_ble_eq_true rfl)) (Nat.le_of_ble_eq_true rfl) (Or.inl rfl)).trans (zbI_congr fun v4 h3 => ?_)
      refine (rn_sI d_H_seenBy_27 nb_0_48 (zinv_s l_0_48 (by decide) (Nat.le_of_ble_eq_true rfl) rfl rfl (Nat.le_of_ble_eq_true rfl)) (Nat.le_of_ble_eq_true rfl) (Or.inl rfl)).trans (zbI_congr fun v6 h5 => ?_)
      refine (rn_ld d_H_seenBy_30 rfl rfl rfl rfl).trans ?_
      refine (rn_ld d_H_seenBy_31 rfl rfl rfl rfl).trans ?_
      refine (rn_vI d_H_seenBy_32 (zinv_v l_0_96 (by decide) (Nat.le_of_ble_eq_true rfl) rfl rfl H.c (Nat.le_of_ble_eq_true rfl)) (Nat.le_of_ble_eq_true rfl) (Or.inl rfl)).trans (zbI_congr fun v8 h7 => ?_)
      refine (rn_sI d_H_seenBy_35 nb_0_48 (zinv_s l_0_48 (by decide) (Nat.le_of_ble_eq_true rfl) rfl rfl (Nat.le_of_ble_eq_true rfl)) (Nat.le_of_ble_eq_true rfl) (Or.inl rfl)).trans (zbI_congr fun v10 h9 => ?_)
      refine (rn_a2 d_H_seenBy_38 rfl).trans ?_
      refine (rn_a2 d_H_seenBy_39 rfl).trans ?_
      refine (rn_st d_H_seenBy_40 rfl rfl rfl (by decide) rfl (Nat.le_of_ble_eq_true rfl) (ls' := [some (.ref a), some (.int x1), some (.int (x2 ||| (v6 ||| v10))), some (.int x3)]) rfl).trans ?_
      refine (rn_inc d_H_seenBy_41 rfl (c := 1) (by decide) (ls' := [some (.ref a), some (.int x1), some (.int (x2 ||| (v6 ||| v10))), some (.int (x3 + 1))]) rfl).trans ?_
      refine (rn_goto d_H_seenBy_44 (t := 4) (by decide)).trans ?_
      rfl
theorem e_H_seenBy {X : zX} {a : Nat} {x1 : Int32} {h : zH} (H : isH a) : zcf X m_H_seenBy [.ref a, .int x1] h = zrn X 3 m_H_seenBy 4 [some (.ref a), some (.int x1), some (.int 0), some (.int 0)] [] h := by
  refine (zcf_run (Nat.le_of_ble_eq_true rfl)).trans ?_
  show zrn X 3 m_H_seenBy 0 [some (.ref a), some (.int x1), none, none] [] h = _
  refine (rn_push d_H_seenBy_0 zcs_iconst_0).trans ?_
  refine (rn_st d_H_seenBy_1 rfl rfl rfl (by decide) rfl (Nat.le_of_ble_eq_true rfl) (ls' := [some (.ref a), some (.int x1), some (.int 0), none]) rfl).trans ?_
  refine (rn_push d_H_seenBy_2 zcs_iconst_0).trans ?_
  refine (rn_st d_H_seenBy_3 rfl rfl rfl (by decide) rfl (Nat.le_of_ble_eq_true rfl) (ls' := [some (.ref a), some (.int x1), some (.int 0), some (.int 0)]) rfl).trans ?_
  rfl
theorem b_H_seesAllWays_2 {X : zX} {a : Nat} {x1 : Int32} {x2 : Int32} {h : zH} (H : isH a) : zrn X 2 m_H_seesAllWays 2 [some (.ref a), some (.int x1), some (.int x2)] [] h = (if 4 ≤ x2 then (some (some (.int 1), h)) else (zbI (zcf X m_H_reachOf [.ref a, .int x1] h) fun v2 h1 => (zbI (zcf X m_H_nextTo [.ref a, .int x1, .int x2, .int v2] h1) fun v4 h3 => (if v4 = (-9) then (some (some (.int 0), h3)) else zrn X 2 m_H_seesAllWays 2 [some (.ref a), some (.int x1), some (.int (x2 + 1))] [] h3)))) := by
  refine (rn_ld d_H_seesAllWays_2 rfl rfl rfl rfl).trans ?_
  refine (rn_push d_H_seesAllWays_3 zcs_iconst_4).trans ?_
  refine (rn_ic_ge d_H_seesAllWays_4 (t := 31) (by decide)).trans (zif ?_ ?_)
  · refine (rn_push d_H_seesAllWays_31 zcs_iconst_1).trans ?_
    exact rn_rz d_H_seesAllWays_32 rfl (by decide)
  · refine (rn_ld d_H_seesAllWays_7 rfl rfl rfl rfl).trans ?_
    refine (rn_ld d_H_seesAllWays_8 rfl rfl rfl rfl).trans ?_
    refine (rn_ld d_H_seesAllWays_9 rfl rfl rfl rfl).trans ?_
    refine (rn_ld d_H_seesAllWays_10 rfl rfl rfl rfl).trans ?_
    refine (rn_ld d_H_seesAllWays_11 rfl rfl rfl rfl).trans ?_
    refine (rn_vI d_H_seesAllWays_12 (zinv_v l_0_80 (by decide) (Nat.le_of_ble_eq_true rfl) rfl rfl H.c (Nat.le_of_ble_eq_true rfl)) (Nat.le_of_ble_eq_true rfl) (Or.inl rfl)).trans (zbI_congr fun v2 h1 => ?_)
    refine (rn_vI d_H_seesAllWays_15 (zinv_v l_0_83 (by decide) (Nat.le_of_ble_eq_true rfl) rfl rfl H.c (Nat.le_of_ble_eq_true rfl)) (Nat.le_of_ble_eq_true rfl) (Or.inl rfl)).trans (zbI_congr fun v4 h3 => ?_)
    refine (rn_push d_H_seesAllWays_18 zcs_bipush_m9).trans ?_
    refine (rn_ic_ne d_H_seesAllWays_20 (t := 25) (by decide)).trans (zif ?_ ?_)
    · refine (rn_push d_H_seesAllWays_23 zcs_iconst_0).trans ?_
      exact rn_rz d_H_seesAllWays_24 rfl (by decide)
    · refine (rn_inc d_H_seesAllWays_25 rfl (c := 1) (by decide) (ls' := [some (.ref a), some (.int x1), some (.int (x2 + 1))]) rfl).trans ?_
      refine (rn_goto d_H_seesAllWays_28 (t := 2) (by decide)).trans ?_
      rfl
theorem e_H_seesAllWays {X : zX} {a : Nat} {x1 : Int32} {h : zH} (H : isH a) : zcf X m_H_seesAllWays [.ref a, .int x1] h = zrn X 2 m_H_seesAllWays 2 [some (.ref a), some (.int x1), some (.int 0)] [] h := by
  refine (zcf_run (Nat.le_of_ble_eq_true rfl)).trans ?_
  show zrn X 2 m_H_seesAllWays 0 [some (.ref a), some (.int x1), none] [] h = _
  refine (rn_push d_H_seesAllWays_0 zcs_iconst_0).trans ?_
  refine (rn_st d_H_seesAllWays_1 rfl rfl rfl (by decide) rfl (Nat.le_of_ble_eq_true rfl) (ls' := [some (.ref a), some (.int x1), some (.int 0)]) rfl).trans ?_
  rfl
theorem b_H_facesToSeeUnseen_2 {X : zX} {a : Nat} {x1 : Int32} {x2 : Int32} {h : zH} (H : isH a) : zrn X 3 m_H_facesToSeeUnseen 2 [some (.ref a), some (.int x1), some (.int x2)] [] h = (if 4 ≤ x2 then (some (some (.int (-9)), h)) else (zbV (zcf X m_X_put [.ref (a + 4), .int x1, .int x2] h) fun h1 => (zbI (zcf X m_H_ahead [.ref a, .int x1] h1) fun v3 h2 => (if v3 = (-9) then zrn X 3 m_H_facesToSeeUnseen 2 [some (.ref a), some (.int x1), some (.int (x2 + 1))] [] h2 else (zbI (zcf X m_H_inLens [.ref a, .int x1] h2) fun v5 h4 => (if v5 = (-9) then (some (some (.int x2), h4)) else zrn X 3 m_H_facesToSeeUnseen 2 [some (.ref a), some (.int x1), some (.int (x2 + 1))] [] h4)))))) := by
  refine (rn_ld d_H_facesToSeeUnseen_2 rfl rfl rfl rfl).trans ?_
  refine (rn_push d_H_facesToSeeUnseen_3 zcs_iconst_4).trans ?_
  refine (rn_ic_ge d_H_facesToSeeUnseen_4 (t := 44) (by decide)).trans (zif ?_ ?_)
  · refine (rn_push d_H_facesToSeeUnseen_44 zcs_bipush_m9).trans ?_
    exact rn_ri d_H_facesToSeeUnseen_46 rfl
  · refine (rn_ld d_H_facesToSeeUnseen_7 rfl rfl rfl rfl).trans ?_
    refine (rn_gr d_H_facesToSeeUnseen_8 f_0_21 H.c H.r3).trans ?_
    refine (rn_ld d_H_facesToSeeUnseen_11 rfl rfl rfl rfl).trans ?_
    refine (rn_ld d_H_facesToSeeUnseen_12 rfl rfl rfl rfl).trans ?_
    refine (rn_sV d_H_facesToSeeUnseen_13 nb_0_44 (zinv_s l_0_44 (by decide) (Nat.le_of_ble_eq_true rfl) rfl rfl (Nat.le_of_ble_eq_true rfl)) (Nat.le_of_ble_eq_true rfl) rfl).trans (zbV_congr fun h1 => ?_)
    refine (rn_ld d_H_facesToSeeUnseen_16 rfl rfl rfl rfl).trans ?_
    refine (rn_ld d_H_facesToSeeUnseen_17 rfl rfl rfl rfl).trans ?_
    refine (rn_vI d_H_facesToSeeUnseen_18 (zinv_v l_0_93 (by decide) (Nat.le_of_ble_eq_true rfl) rfl rfl H.c (Nat.le_of_ble_eq_true rfl)) (Nat.le_of_ble_eq_true rfl) (Or.inl rfl)).trans (zbI_congr fun v3 h2 => ?_)
    refine (rn_push d_H_facesToSeeUnseen_21 zcs_bipush_m9).trans ?_
    refine (rn_ic_eq d_H_facesToSeeUnseen_23 (t := 38) (by decide)).trans (zif ?_ ?_)
    · refine (rn_inc d_H_facesToSeeUnseen_38 rfl (c := 1) (by decide) (ls' := [some (.ref a), some (.int x1), some (.int (x2 + 1))]) rfl).trans ?_
      refine (rn_goto d_H_facesToSeeUnseen_41 (t := 2) (by decide)).trans ?_
      rfl
    · refine (rn_ld d_H_facesToSeeUnseen_26 rfl rfl rfl rfl).trans ?_
      refine (rn_ld d_H_facesToSeeUnseen_27 rfl rfl rfl rfl).trans ?_
      refine (rn_vI d_H_facesToSeeUnseen_28 (zinv_v l_0_96 (by decide) (Nat.le_of_ble_eq_true rfl) rfl rfl H.c (Nat.le_of_ble_eq_true rfl)) (Nat.le_of_ble_eq_true rfl) (Or.inl rfl)).trans (zbI_congr fun v5 h4 => ?_)
      refine (rn_push d_H_facesToSeeUnseen_31 zcs_bipush_m9).trans ?_
      refine (rn_ic_ne d_H_facesToSeeUnseen_33 (t := 38) (by decide)).trans (zif ?_ ?_)
      · refine (rn_ld d_H_facesToSeeUnseen_36 rfl rfl rfl rfl).trans ?_
        exact rn_ri d_H_facesToSeeUnseen_37 rfl
      · refine (rn_inc d_H_facesToSeeUnseen_38 rfl (c := 1) (by decide) (ls' := [some (.ref a), some (.int x1), some (.int (x2 + 1))]) rfl).trans ?_
        refine (rn_goto d_H_facesToSeeUnseen_41 (t := 2) (by decide)).trans ?_
        rfl
theorem e_H_facesToSeeUnseen {X : zX} {a : Nat} {x1 : Int32} {h : zH} (H : isH a) : zcf X m_H_facesToSeeUnseen [.ref a, .int x1] h = zrn X 3 m_H_facesToSeeUnseen 2 [some (.ref a), some (.int x1), some (.int 0)] [] h := by
  refine (zcf_run (Nat.le_of_ble_eq_true rfl)).trans ?_
  show zrn X 3 m_H_facesToSeeUnseen 0 [some (.ref a), some (.int x1), none] [] h = _
  refine (rn_push d_H_facesToSeeUnseen_0 zcs_iconst_0).trans ?_
  refine (rn_st d_H_facesToSeeUnseen_1 rfl rfl rfl (by decide) rfl (Nat.le_of_ble_eq_true rfl) (ls' := [some (.ref a), some (.int x1), some (.int 0)]) rfl).trans ?_
  rfl
theorem e_H_beOfKind {X : zX} {a : Nat} {x1 : Int32} {x2 : Int32} {h : zH} (H : isH a) : zcf X m_H_beOfKind [.ref a, .int x1, .int x2] h = (zbV (zcf X m_X_put [.ref (a + 1), .int x1, .int x2] h) fun h1 => (some (none, h1))) := by
  refine (zcf_run (Nat.le_of_ble_eq_true rfl)).trans ?_
  show zrn X 1 m_H_beOfKind 0 [some (.ref a), some (.int x1), some (.int x2)] [] h = _
  refine (rn_ld d_H_beOfKind_0 rfl rfl rfl rfl).trans ?_
  refine (rn_gr d_H_beOfKind_1 f_0_9 H.c H.r0).trans ?_
  refine (rn_ld d_H_beOfKind_4 rfl rfl rfl rfl).trans ?_
  refine (rn_ld d_H_beOfKind_5 rfl rfl rfl rfl).trans ?_
  refine (rn_sV d_H_beOfKind_6 nb_0_44 (zinv_s l_0_44 (by decide) (Nat.le_of_ble_eq_true rfl) rfl rfl (Nat.le_of_ble_eq_true rfl)) (Nat.le_of_ble_eq_true rfl) rfl).trans (zbV_congr fun h1 => ?_)
  exact rn_rv d_H_beOfKind_9 rfl
theorem e_H_beOfFigure {X : zX} {a : Nat} {x1 : Int32} {x2 : Int32} {h : zH} (H : isH a) : zcf X m_H_beOfFigure [.ref a, .int x1, .int x2] h = (zbV (zcf X m_X_put [.ref (a + 2), .int x1, .int x2] h) fun h1 => (some (none, h1))) := by
  refine (zcf_run (Nat.le_of_ble_eq_true rfl)).trans ?_
  show zrn X 1 m_H_beOfFigure 0 [some (.ref a), some (.int x1), some (.int x2)] [] h = _
  refine (rn_ld d_H_beOfFigure_0 rfl rfl rfl rfl).trans ?_
  refine (rn_gr d_H_beOfFigure_1 f_0_15 H.c H.r1).trans ?_
  refine (rn_ld d_H_beOfFigure_4 rfl rfl rfl rfl).trans ?_
  refine (rn_ld d_H_beOfFigure_5 rfl rfl rfl rfl).trans ?_
  refine (rn_sV d_H_beOfFigure_6 nb_0_44 (zinv_s l_0_44 (by decide) (Nat.le_of_ble_eq_true rfl) rfl rfl (Nat.le_of_ble_eq_true rfl)) (Nat.le_of_ble_eq_true rfl) rfl).trans (zbV_congr fun h1 => ?_)
  exact rn_rv d_H_beOfFigure_9 rfl
theorem e_H_cellOfStep {X : zX} {a : Nat} {x1 : Int32} {x2 : Int32} {h : zH} (H : isH a) : zcf X m_H_cellOfStep [.ref a, .int x1, .int x2] h = (if x2 = 4 then (zbI (zcf X m_X_at [.ref (a + 3), .int x1] h) fun v2 h1 => (some (some (.int v2), h1))) else (zbI (zcf X m_X_at [.ref (a + 3), .int x1] h) fun v4 h3 => (zbI (zcf X m_X_cellBeside [.int v4, .int x2] h3) fun v6 h5 => (zbI (zcf X m_H_isFree [.ref a, .int v6] h5) fun v8 h7 => (if v8 = 0 then (some (some (.int (-1)), h7)) else (some (some (.int v6), h7))))))) := by
  refine (zcf_run (Nat.le_of_ble_eq_true rfl)).trans ?_
  show zrn X 2 m_H_cellOfStep 0 [some (.ref a), some (.int x1), some (.int x2), none] [] h = _
  refine (rn_ld d_H_cellOfStep_0 rfl rfl rfl rfl).trans ?_
  refine (rn_push d_H_cellOfStep_1 zcs_iconst_4).trans ?_
  refine (rn_ic_ne d_H_cellOfStep_2 (t := 14) (by decide)).trans (zif ?_ ?_)
  · refine (rn_ld d_H_cellOfStep_5 rfl rfl rfl rfl).trans ?_
    refine (rn_gr d_H_cellOfStep_6 f_0_18 H.c H.r2).trans ?_
    refine (rn_ld d_H_cellOfStep_9 rfl rfl rfl rfl).trans ?_
    refine (rn_sI d_H_cellOfStep_10 nb_0_40 (zinv_s l_0_40 (by decide) (Nat.le_of_ble_eq_true rfl) rfl rfl (Nat.le_of_ble_eq_true rfl)) (Nat.le_of_ble_eq_true rfl) (Or.inl rfl)).trans (zbI_congr fun v2 h1 => ?_)
    exact rn_ri d_H_cellOfStep_13 rfl
  · refine (rn_ld d_H_cellOfStep_14 rfl rfl rfl rfl).trans ?_
    refine (rn_gr d_H_cellOfStep_15 f_0_18 H.c H.r2).trans ?_
    refine (rn_ld d_H_cellOfStep_18 rfl rfl rfl rfl).trans ?_
    refine (rn_sI d_H_cellOfStep_19 nb_0_40 (zinv_s l_0_40 (by decide) (Nat.le_of_ble_eq_true rfl) rfl rfl (Nat.le_of_ble_eq_true rfl)) (Nat.le_of_ble_eq_true rfl) (Or.inl rfl)).trans (zbI_congr fun v4 h3 => ?_)
    refine (rn_ld d_H_cellOfStep_22 rfl rfl rfl rfl).trans ?_
    refine (rn_sI d_H_cellOfStep_23 nb_0_73 (zinv_s l_0_73 (by decide) (Nat.le_of_ble_eq_true rfl) rfl rfl (Nat.le_of_ble_eq_true rfl)) (Nat.le_of_ble_eq_true rfl) (Or.inl rfl)).trans (zbI_congr fun v6 h5 => ?_)
    refine (rn_st d_H_cellOfStep_26 rfl rfl rfl (by decide) rfl (Nat.le_of_ble_eq_true rfl) (ls' := [some (.ref a), some (.int x1), some (.int x2), some (.int v6)]) rfl).trans ?_
    refine (rn_ld d_H_cellOfStep_27 rfl rfl rfl rfl).trans ?_
    refine (rn_ld d_H_cellOfStep_28 rfl rfl rfl rfl).trans ?_
    refine (rn_vI d_H_cellOfStep_29 (zinv_v l_0_76 (by decide) (Nat.le_of_ble_eq_true rfl) rfl rfl H.c (Nat.le_of_ble_eq_true rfl)) (Nat.le_of_ble_eq_true rfl) (Or.inr rfl)).trans (zbI_congr fun v8 h7 => ?_)
    refine (rn_if_eq d_H_cellOfStep_32 (t := 39) (by decide)).trans (zif ?_ ?_)
    · refine (rn_push d_H_cellOfStep_39 zcs_iconst_m1).trans ?_
      exact rn_ri d_H_cellOfStep_40 rfl
    · refine (rn_ld d_H_cellOfStep_35 rfl rfl rfl rfl).trans ?_
      refine (rn_goto d_H_cellOfStep_36 (t := 40) (by decide)).trans ?_
      exact rn_ri d_H_cellOfStep_40 rfl
theorem e_J_bitCount {X : zX} {x0 : Int32} {h : zH} : zcf X m_J_bitCount [.int x0] h = (some (some (.int ((((((((x0 - (((Int32.toUInt32 x0 >>> (Int32.toUInt32 1 &&& Int32.toUInt32 31)).toInt32) &&& 1431655765)) &&& 858993459) + (((Int32.toUInt32 (x0 - (((Int32.toUInt32 x0 >>> (Int32.toUInt32 1 &&& Int32.toUInt32 31)).toInt32) &&& 1431655765)) >>> (Int32.toUInt32 2 &&& Int32.toUInt32 31)).toInt32) &&& 858993459)) + ((Int32.toUInt32 (((x0 - (((Int32.toUInt32 x0 >>> (Int32.toUInt32 1 &&& Int32.toUInt32 31)).toInt32) &&& 1431655765)) &&& 858993459) + (((Int32.toUInt32 (x0 - (((Int32.toUInt32 x0 >>> (Int32.toUInt32 1 &&& Int32.toUInt32 31)).toInt32) &&& 1431655765)) >>> (Int32.toUInt32 2 &&& Int32.toUInt32 31)).toInt32) &&& 858993459)) >>> (Int32.toUInt32 4 &&& Int32.toUInt32 31)).toInt32)) &&& 252645135) + ((Int32.toUInt32 (((((x0 - (((Int32.toUInt32 x0 >>> (Int32.toUInt32 1 &&& Int32.toUInt32 31)).toInt32) &&& 1431655765)) &&& 858993459) + (((Int32.toUInt32 (x0 - (((Int32.toUInt32 x0 >>> (Int32.toUInt32 1 &&& Int32.toUInt32 31)).toInt32) &&& 1431655765)) >>> (Int32.toUInt32 2 &&& Int32.toUInt32 31)).toInt32) &&& 858993459)) + ((Int32.toUInt32 (((x0 - (((Int32.toUInt32 x0 >>> (Int32.toUInt32 1 &&& Int32.toUInt32 31)).toInt32) &&& 1431655765)) &&& 858993459) + (((Int32.toUInt32 (x0 - (((Int32.toUInt32 x0 >>> (Int32.toUInt32 1 &&& Int32.toUInt32 31)).toInt32) &&& 1431655765)) >>> (Int32.toUInt32 2 &&& Int32.toUInt32 31)).toInt32) &&& 858993459)) >>> (Int32.toUInt32 4 &&& Int32.toUInt32 31)).toInt32)) &&& 252645135) >>> (Int32.toUInt32 8 &&& Int32.toUInt32 31)).toInt32)) + ((Int32.toUInt32 ((((((x0 - (((Int32.toUInt32 x0 >>> (Int32.toUInt32 1 &&& Int32.toUInt32 31)).toInt32) &&& 1431655765)) &&& 858993459) + (((Int32.toUInt32 (x0 - (((Int32.toUInt32 x0 >>> (Int32.toUInt32 1 &&& Int32.toUInt32 31)).toInt32) &&& 1431655765)) >>> (Int32.toUInt32 2 &&& Int32.toUInt32 31)).toInt32) &&& 858993459)) + ((Int32.toUInt32 (((x0 - (((Int32.toUInt32 x0 >>> (Int32.toUInt32 1 &&& Int32.toUInt32 31)).toInt32) &&& 1431655765)) &&& 858993459) + (((Int32.toUInt32 (x0 - (((Int32.toUInt32 x0 >>> (Int32.toUInt32 1 &&& Int32.toUInt32 31)).toInt32) &&& 1431655765)) >>> (Int32.toUInt32 2 &&& Int32.toUInt32 31)).toInt32) &&& 858993459)) >>> (Int32.toUInt32 4 &&& Int32.toUInt32 31)).toInt32)) &&& 252645135) + ((Int32.toUInt32 (((((x0 - (((Int32.toUInt32 x0 >>> (Int32.toUInt32 1 &&& Int32.toUInt32 31)).toInt32) &&& 1431655765)) &&& 858993459) + (((Int32.toUInt32 (x0 - (((Int32.toUInt32 x0 >>> (Int32.toUInt32 1 &&& Int32.toUInt32 31)).toInt32) &&& 1431655765)) >>> (Int32.toUInt32 2 &&& Int32.toUInt32 31)).toInt32) &&& 858993459)) + ((Int32.toUInt32 (((x0 - (((Int32.toUInt32 x0 >>> (Int32.toUInt32 1 &&& Int32.toUInt32 31)).toInt32) &&& 1431655765)) &&& 858993459) + (((Int32.toUInt32 (x0 - (((Int32.toUInt32 x0 >>> (Int32.toUInt32 1 &&& Int32.toUInt32 31)).toInt32) &&& 1431655765)) >>> (Int32.toUInt32 2 &&& Int32.toUInt32 31)).toInt32) &&& 858993459)) >>> (Int32.toUInt32 4 &&& Int32.toUInt32 31)).toInt32)) &&& 252645135) >>> (Int32.toUInt32 8 &&& Int32.toUInt32 31)).toInt32)) >>> (Int32.toUInt32 16 &&& Int32.toUInt32 31)).toInt32)) &&& 63)), h)) := by
  refine (zcf_run (Nat.le_of_ble_eq_true rfl)).trans ?_
  show zrn X 0 m_J_bitCount 0 [some (.int x0)] [] h = _
  refine (rn_ld d_J_bitCount_0 rfl rfl rfl rfl).trans ?_
  refine (rn_ld d_J_bitCount_1 rfl rfl rfl rfl).trans ?_
  refine (rn_push d_J_bitCount_2 zcs_iconst_1).trans ?_
  refine (rn_a2 d_J_bitCount_3 rfl).trans ?_
  refine (rn_push d_J_bitCount_4 zcs_ldc_6_265).trans ?_
  refine (rn_a2 d_J_bitCount_7 rfl).trans ?_
  refine (rn_a2 d_J_bitCount_8 rfl).trans ?_
  refine (rn_st d_J_bitCount_9 rfl rfl rfl (by decide) rfl (Nat.le_of_ble_eq_true rfl) (ls' := [some (.int (x0 - (((Int32.toUInt32 x0 >>> (Int32.toUInt32 1 &&& Int32.toUInt32 31)).toInt32) &&& 1431655765)))]) rfl).trans ?_
  refine (rn_ld d_J_bitCount_10 rfl rfl rfl rfl).trans ?_
  refine (rn_push d_J_bitCount_11 zcs_ldc_6_266).trans ?_
  refine (rn_a2 d_J_bitCount_14 rfl).trans ?_
  refine (rn_ld d_J_bitCount_15 rfl rfl rfl rfl).trans ?_
  refine (rn_push d_J_bitCount_16 zcs_iconst_2).trans ?_
  refine (rn_a2 d_J_bitCount_17 rfl).trans ?_
  refine (rn_push d_J_bitCount_18 zcs_ldc_6_266).trans ?_
  refine (rn_a2 d_J_bitCount_21 rfl).trans ?_
  refine (rn_a2 d_J_bitCount_22 rfl).trans ?_
  refine (rn_st d_J_bitCount_23 rfl rfl rfl (by decide) rfl (Nat.le_of_ble_eq_true rfl) (ls' := [some (.int (((x0 - (((Int32.toUInt32 x0 >>> (Int32.toUInt32 1 &&& Int32.toUInt32 31)).toInt32) &&& 1431655765)) &&& 858993459) + (((Int32.toUInt32 (x0 - (((Int32.toUInt32 x0 >>> (Int32.toUInt32 1 &&& Int32.toUInt32 31)).toInt32) &&& 1431655765)) >>> (Int32.toUInt32 2 &&& Int32.toUInt32 31)).toInt32) &&& 858993459)))]) rfl).trans ?_
  refine (rn_ld d_J_bitCount_24 rfl rfl rfl rfl).trans ?_
  refine (rn_ld d_J_bitCount_25 rfl rfl rfl rfl).trans ?_
  refine (rn_push d_J_bitCount_26 zcs_iconst_4).trans ?_
  refine (rn_a2 d_J_bitCount_27 rfl).trans ?_
  refine (rn_a2 d_J_bitCount_28 rfl).trans ?_
  refine (rn_push d_J_bitCount_29 zcs_ldc_6_267).trans ?_
  refine (rn_a2 d_J_bitCount_32 rfl).trans ?_
  refine (rn_st d_J_bitCount_33 rfl rfl rfl (by decide) rfl (Nat.le_of_ble_eq_true rfl) (ls' := [some (.int (((((x0 - (((Int32.toUInt32 x0 >>> (Int32.toUInt32 1 &&& Int32.toUInt32 31)).toInt32) &&& 1431655765)) &&& 858993459) + (((Int32.toUInt32 (x0 - (((Int32.toUInt32 x0 >>> (Int32.toUInt32 1 &&& Int32.toUInt32 31)).toInt32) &&& 1431655765)) >>> (Int32.toUInt32 2 &&& Int32.toUInt32 31)).toInt32) &&& 858993459)) + ((Int32.toUInt32 (((x0 - (((Int32.toUInt32 x0 >>> (Int32.toUInt32 1 &&& Int32.toUInt32 31)).toInt32) &&& 1431655765)) &&& 858993459) + (((Int32.toUInt32 (x0 - (((Int32.toUInt32 x0 >>> (Int32.toUInt32 1 &&& Int32.toUInt32 31)).toInt32) &&& 1431655765)) >>> (Int32.toUInt32 2 &&& Int32.toUInt32 31)).toInt32) &&& 858993459)) >>> (Int32.toUInt32 4 &&& Int32.toUInt32 31)).toInt32)) &&& 252645135))]) rfl).trans ?_
  refine (rn_ld d_J_bitCount_34 rfl rfl rfl rfl).trans ?_
  refine (rn_ld d_J_bitCount_35 rfl rfl rfl rfl).trans ?_
  refine (rn_push d_J_bitCount_36 zcs_bipush_8).trans ?_
  refine (rn_a2 d_J_bitCount_38 rfl).trans ?_
  refine (rn_a2 d_J_bitCount_39 rfl).trans ?_
  refine (rn_st d_J_bitCount_40 rfl rfl rfl (by decide) rfl (Nat.le_of_ble_eq_true rfl) (ls' := [some (.int ((((((x0 - (((Int32.toUInt32 x0 >>> (Int32.toUInt32 1 &&& Int32.toUInt32 31)).toInt32) &&& 1431655765)) &&& 858993459) + (((Int32.toUInt32 (x0 - (((Int32.toUInt32 x0 >>> (Int32.toUInt32 1 &&& Int32.toUInt32 31)).toInt32) &&& 1431655765)) >>> (Int32.toUInt32 2 &&& Int32.toUInt32 31)).toInt32) &&& 858993459)) + ((Int32.toUInt32 (((x0 - (((Int32.toUInt32 x0 >>> (Int32.toUInt32 1 &&& Int32.toUInt32 31)).toInt32) &&& 1431655765)) &&& 858993459) + (((Int32.toUInt32 (x0 - (((Int32.toUInt32 x0 >>> (Int32.toUInt32 1 &&& Int32.toUInt32 31)).toInt32) &&& 1431655765)) >>> (Int32.toUInt32 2 &&& Int32.toUInt32 31)).toInt32) &&& 858993459)) >>> (Int32.toUInt32 4 &&& Int32.toUInt32 31)).toInt32)) &&& 252645135) + ((Int32.toUInt32 (((((x0 - (((Int32.toUInt32 x0 >>> (Int32.toUInt32 1 &&& Int32.toUInt32 31)).toInt32) &&& 1431655765)) &&& 858993459) + (((Int32.toUInt32 (x0 - (((Int32.toUInt32 x0 >>> (Int32.toUInt32 1 &&& Int32.toUInt32 31)).toInt32) &&& 1431655765)) >>> (Int32.toUInt32 2 &&& Int32.toUInt32 31)).toInt32) &&& 858993459)) + ((Int32.toUInt32 (((x0 - (((Int32.toUInt32 x0 >>> (Int32.toUInt32 1 &&& Int32.toUInt32 31)).toInt32) &&& 1431655765)) &&& 858993459) + (((Int32.toUInt32 (x0 - (((Int32.toUInt32 x0 >>> (Int32.toUInt32 1 &&& Int32.toUInt32 31)).toInt32) &&& 1431655765)) >>> (Int32.toUInt32 2 &&& Int32.toUInt32 31)).toInt32) &&& 858993459)) >>> (Int32.toUInt32 4 &&& Int32.toUInt32 31)).toInt32)) &&& 252645135) >>> (Int32.toUInt32 8 &&& Int32.toUInt32 31)).toInt32)))]) rfl).trans ?_
  refine (rn_ld d_J_bitCount_41 rfl rfl rfl rfl).trans ?_
  refine (rn_ld d_J_bitCount_42 rfl rfl rfl rfl).trans ?_
  refine (rn_push d_J_bitCount_43 zcs_bipush_16).trans ?_
  refine (rn_a2 d_J_bitCount_45 rfl).trans ?_
  refine (rn_a2 d_J_bitCount_46 rfl).trans ?_
  refine (rn_st d_J_bitCount_47 rfl rfl rfl (by decide) rfl (Nat.le_of_ble_eq_true rfl) (ls' := [some (.int (((((((x0 - (((Int32.toUInt32 x0 >>> (Int32.toUInt32 1 &&& Int32.toUInt32 31)).toInt32) &&& 1431655765)) &&& 858993459) + (((Int32.toUInt32 (x0 - (((Int32.toUInt32 x0 >>> (Int32.toUInt32 1 &&& Int32.toUInt32 31)).toInt32) &&& 1431655765)) >>> (Int32.toUInt32 2 &&& Int32.toUInt32 31)).toInt32) &&& 858993459)) + ((Int32.toUInt32 (((x0 - (((Int32.toUInt32 x0 >>> (Int32.toUInt32 1 &&& Int32.toUInt32 31)).toInt32) &&& 1431655765)) &&& 858993459) + (((Int32.toUInt32 (x0 - (((Int32.toUInt32 x0 >>> (Int32.toUInt32 1 &&& Int32.toUInt32 31)).toInt32) &&& 1431655765)) >>> (Int32.toUInt32 2 &&& Int32.toUInt32 31)).toInt32) &&& 858993459)) >>> (Int32.toUInt32 4 &&& Int32.toUInt32 31)).toInt32)) &&& 252645135) + ((Int32.toUInt32 (((((x0 - (((Int32.toUInt32 x0 >>> (Int32.toUInt32 1 &&& Int32.toUInt32 31)).toInt32) &&& 1431655765)) &&& 858993459) + (((Int32.toUInt32 (x0 - (((Int32.toUInt32 x0 >>> (Int32.toUInt32 1 &&& Int32.toUInt32 31)).toInt32) &&& 1431655765)) >>> (Int32.toUInt32 2 &&& Int32.toUInt32 31)).toInt32) &&& 858993459)) + ((Int32.toUInt32 (((x0 - (((Int32.toUInt32 x0 >>> (Int32.toUInt32 1 &&& Int32.toUInt32 31)).toInt32) &&& 1431655765)) &&& 858993459) + (((Int32.toUInt32 (x0 - (((Int32.toUInt32 x0 >>> (Int32.toUInt32 1 &&& Int32.toUInt32 31)).toInt32) &&& 1431655765)) >>> (Int32.toUInt32 2 &&& Int32.toUInt32 31)).toInt32) &&& 858993459)) >>> (Int32.toUInt32 4 &&& Int32.toUInt32 31)).toInt32)) &&& 252645135) >>> (Int32.toUInt32 8 &&& Int32.toUInt32 31)).toInt32)) + ((Int32.toUInt32 ((((((x0 - (((Int32.toUInt32 x0 >>> (Int32.toUInt32 1 &&& Int32.toUInt32 31)).toInt32) &&& 1431655765)) &&& 858993459) + (((Int32.toUInt32 (x0 - (((Int32.toUInt32 x0 >>> (Int32.toUInt32 1 &&& Int32.toUInt32 31)).toInt32) &&& 1431655765)) >>> (Int32.toUInt32 2 &&& Int32.toUInt32 31)).toInt32) &&& 858993459)) + ((Int32.toUInt32 (((x0 - (((Int32.toUInt32 x0 >>> (Int32.toUInt32 1 &&& Int32.toUInt32 31)).toInt32) &&& 1431655765)) &&& 858993459) + (((Int32.toUInt32 (x0 - (((Int32.toUInt32 x0 >>> (Int32.toUInt32 1 &&& Int32.toUInt32 31)).toInt32) &&& 1431655765)) >>> (Int32.toUInt32 2 &&& Int32.toUInt32 31)).toInt32) &&& 858993459)) >>> (Int32.toUInt32 4 &&& Int32.toUInt32 31)).toInt32)) &&& 252645135) + ((Int32.toUInt32 (((((x0 - (((Int32.toUInt32 x0 >>> (Int32.toUInt32 1 &&& Int32.toUInt32 31)).toInt32) &&& 1431655765)) &&& 858993459) + (((Int32.toUInt32 (x0 - (((Int32.toUInt32 x0 >>> (Int32.toUInt32 1 &&& Int32.toUInt32 31)).toInt32) &&& 1431655765)) >>> (Int32.toUInt32 2 &&& Int32.toUInt32 31)).toInt32) &&& 858993459)) + ((Int32.toUInt32 (((x0 - (((Int32.toUInt32 x0 >>> (Int32.toUInt32 1 &&& Int32.toUInt32 31)).toInt32) &&& 1431655765)) &&& 858993459) + (((Int32.toUInt32 (x0 - (((Int32.toUInt32 x0 >>> (Int32.toUInt32 1 &&& Int32.toUInt32 31)).toInt32) &&& 1431655765)) >>> (Int32.toUInt32 2 &&& Int32.toUInt32 31)).toInt32) &&& 858993459)) >>> (Int32.toUInt32 4 &&& Int32.toUInt32 31)).toInt32)) &&& 252645135) >>> (Int32.toUInt32 8 &&& Int32.toUInt32 31)).toInt32)) >>> (Int32.toUInt32 16 &&& Int32.toUInt32 31)).toInt32)))]) rfl).trans ?_
  refine (rn_ld d_J_bitCount_48 rfl rfl rfl rfl).trans ?_
  refine (rn_push d_J_bitCount_49 zcs_bipush_63).trans ?_
  refine (rn_a2 d_J_bitCount_51 rfl).trans ?_
  exact rn_ri d_J_bitCount_52 rfl
theorem e_H_cellsApart {X : zX} {a : Nat} {x1 : Int32} {x2 : Int32} {h : zH} (H : isH a) : zcf X m_H_cellsApart [.ref a, .int x1, .int x2] h = (zbI (zcf X m_X_at [.ref (a + 3), .int x1] h) fun v2 h1 => (zbI (zcf X m_X_at [.ref (a + 3), .int x2] h1) fun v4 h3 => (zbI (zcf X m_X_rowOf [.int v2] h3) fun v6 h5 => (zbI (zcf X m_X_rowOf [.int v4] h5) fun v8 h7 => (zbI (zcf X m_X_columnOf [.int v2] h7) fun v10 h9 => (zbI (zcf X m_X_columnOf [.int v4] h9) fun v12 h11 => (some (some (.int ((if 0 ≤ (v6 - v8) then (v6 - v8) else 0 - (v6 - v8)) + (if 0 ≤ (v10 - v12) then (v10 - v12) else 0 - (v10 - v12)))), h11)))))))) := by
  refine (zcf_run (Nat.le_of_ble_eq_true rfl)).trans ?_
  show zrn X 1 m_H_cellsApart 0 [some (.ref a), some (.int x1), some (.int x2), none, none] [] h = _
  refine (rn_ld d_H_cellsApart_0 rfl rfl rfl rfl).trans ?_
  refine (rn_gr d_H_cellsApart_1 f_0_18 H.c H.r2).trans ?_
  refine (rn_ld d_H_cellsApart_4 rfl rfl rfl rfl).trans ?_
  refine (rn_sI d_H_cellsApart_5 nb_0_40 (zinv_s l_0_40 (by decide) (Nat.le_of_ble_eq_true rfl) rfl rfl (Nat.le_of_ble_eq_true rfl)) (Nat.le_of_ble_eq_true rfl) (Or.inl rfl)).trans (zbI_congr fun v2 h1 => ?_)
  refine (rn_st d_H_cellsApart_8 rfl rfl rfl (by decide) rfl (Nat.le_of_ble_eq_true rfl) (ls' := [some (.ref a), some (.int x1), some (.int x2), some (.int v2), none]) rfl).trans ?_
  refine (rn_ld d_H_cellsApart_9 rfl rfl rfl rfl).trans ?_
  refine (rn_gr d_H_cellsApart_10 f_0_18 H.c H.r2).trans ?_
  refine (rn_ld d_H_cellsApart_13 rfl rfl rfl rfl).trans ?_
  refine (rn_sI d_H_cellsApart_14 nb_0_40 (zinv_s l_0_40 (by decide) (Nat.le_of_ble_eq_true rfl) rfl rfl (Nat.le_of_ble_eq_true rfl)) (Nat.le_of_ble_eq_true rfl) (Or.inl rfl)).trans (zbI_congr fun v4 h3 => ?_)
  refine (rn_st d_H_cellsApart_17 rfl rfl rfl (by decide) rfl (Nat.le_of_ble_eq_true rfl) (ls' := [some (.ref a), some (.int x1), some (.int x2), some (.int v2), some (.int v4)]) rfl).trans ?_
  refine (rn_ld d_H_cellsApart_19 rfl rfl rfl rfl).trans ?_
  refine (rn_sI d_H_cellsApart_20 nb_0_62 (zinv_s l_0_62 (by decide) (Nat.le_of_ble_eq_true rfl) rfl rfl (Nat.le_of_ble_eq_true rfl)) (Nat.le_of_ble_eq_true rfl) (Or.inl rfl)).trans (zbI_congr fun v6 h5 => ?_)
  refine (rn_ld d_H_cellsApart_23 rfl rfl rfl rfl).trans ?_
  refine (rn_sI d_H_cellsApart_25 nb_0_62 (zinv_s l_0_62 (by decide) (Nat.le_of_ble_eq_true rfl) rfl rfl (Nat.le_of_ble_eq_true rfl)) (Nat.le_of_ble_eq_true rfl) (Or.inl rfl)).trans (zbI_congr fun v8 h7 => ?_)
  refine (rn_a2 d_H_cellsApart_28 rfl).trans ?_
  refine (rn_abs d_H_cellsApart_29 (zb_0_65) (Nat.le_of_ble_eq_true rfl)).trans ?_
  refine (rn_ld d_H_cellsApart_32 rfl rfl rfl rfl).trans ?_
  refine (rn_sI d_H_cellsApart_33 nb_0_70 (zinv_s l_0_70 (by decide) (Nat.le_of_ble_eq_true rfl) rfl rfl (Nat.le_of_ble_eq_true rfl)) (Nat.le_of_ble_eq_true rfl) (Or.inl rfl)).trans (zbI_congr fun v10 h9 => ?_)
  refine (rn_ld d_H_cellsApart_36 rfl rfl rfl rfl).trans ?_
  refine (rn_sI d_H_cellsApart_38 nb_0_70 (zinv_s l_0_70 (by decide) (Nat.le_of_ble_eq_true rfl) rfl rfl (Nat.le_of_ble_eq_true rfl)) (Nat.le_of_ble_eq_true rfl) (Or.inl rfl)).trans (zbI_congr fun v12 h11 => ?_)
  refine (rn_a2 d_H_cellsApart_41 rfl).trans ?_
  refine (rn_abs d_H_cellsApart_42 (zb_0_65) (Nat.le_of_ble_eq_true rfl)).trans ?_
  refine (rn_a2 d_H_cellsApart_45 rfl).trans ?_
  exact rn_ri d_H_cellsApart_46 rfl
theorem b_H_howManySee_4 {X : zX} {a : Nat} {x1 : Int32} {x2 : Int32} {x3 : Int32} {g4 : Option Value} {h : zH} (H : isH a) : zrn X 3 m_H_howManySee 4 [some (.ref a), some (.int x1), some (.int x2), some (.int x3), g4] [] h = (if (h.1 a 5) ≤ x3 then (some (some (.int x2), h)) else (if x1 = 0 then (zbI (zcf X m_H_inLens [.ref a, .int x3] h) fun v2 h1 => zrn X 3 m_H_howManySee 4 [some (.ref a), some (.int x1), some (.int (x2 + (if v2 = (-9) then (0 : Int32) else 1))), some (.int (x3 + 1)), some (.int v2)] [] h1) else (zbI (zcf X m_H_ahead [.ref a, .int x3] h) fun v5 h4 => zrn X 3 m_H_howManySee 4 [some (.ref a), some (.int x1), some (.int (x2 + (if v5 = (-9) then (0 : Int32) else 1))), some (.int (x3 + 1)), some (.int v5)] [] h4))) := by
  refine (rn_ld d_H_howManySee_4 rfl rfl rfl rfl).trans ?_
  refine (rn_ld d_H_howManySee_5 rfl rfl rfl rfl).trans ?_
  refine (rn_gi d_H_howManySee_6 f_0_27 H.c).trans ?_
  refine (rn_ic_ge d_H_howManySee_9 (t := 52) (by decide)).trans (zif ?_ ?_)
  · refine (rn_ld d_H_howManySee_52 rfl rfl rfl rfl).trans ?_
    exact rn_ri d_H_howManySee_53 rfl
  · refine (rn_ld d_H_howManySee_12 rfl rfl rfl rfl).trans ?_
    refine (rn_if_eq d_H_howManySee_13 (t := 24) (by decide)).trans (zif ?_ ?_)
    · refine (rn_ld d_H_howManySee_24 rfl rfl rfl rfl).trans ?_
      refine (rn_ld d_H_howManySee_25 rfl rfl rfl rfl).trans ?_
      refine (rn_vI d_H_howManySee_26 (zinv_v l_0_96 (by decide) (Nat.le_of_ble_eq_true rfl) rfl rfl H.c (Nat.le_of_ble_eq_true rfl)) (Nat.le_of_ble_eq_true rfl) (Or.inl rfl)).trans (zbI_congr fun v2 h1 => ?_)
      refine (rn_st d_H_howManySee_29 rfl rfl rfl (by decide) rfl (Nat.le_of_ble_eq_true rfl) (ls' := [some (.ref a), some (.int x1), some (.int x2), some (.int x3), some (.int v2)]) rfl).trans ?_
      refine (rn_ld d_H_howManySee_31 rfl rfl rfl rfl).trans ?_
      refine (rn_ld d_H_howManySee_32 rfl rfl rfl rfl).trans ?_
      refine (rn_push d_H_howManySee_34 zcs_bipush_m9).trans ?_
      refine Eq.trans (b := zrn X 3 m_H_howManySee 44 [some (.ref a), some (.int x1), some (.int x2), some (.int x3), some (.int v2)] [.int (if v2 = (-9) then (0 : Int32) else 1), .int x2] h1) ?_ ?_
      · refine (rn_ic_eq d_H_howManySee_36 (t := 43) (by decide)).trans ?_
        by_cases q3 : v2 = (-9)
        · simp only [if_pos q3]
          refine (rn_push d_H_howManySee_43 zcs_iconst_0).trans ?_
          all_goals rfl
        · simp only [if_neg q3]
          refine (rn_push d_H_howManySee_39 zcs_iconst_1).trans ?_
          refine (rn_goto d_H_howManySee_40 (t := 44) (by decide)).trans ?_
          all_goals rfl
      refine (rn_a2 d_H_howManySee_44 rfl).trans ?_
      refine (rn_st d_H_howManySee_45 rfl rfl rfl (by decide) rfl (Nat.le_of_ble_eq_true rfl) (ls' := [some (.ref a), some (.int x1), some (.int (x2 + (if v2 = (-9) then (0 : Int32) else 1))), some (.int x3), some (.int v2)]) rfl).trans ?_
      refine (rn_inc d_H_howManySee_46 rfl (c := 1) (by decide) (ls' := [some (.ref a), some (.int x1), some (.int (x2 + (if v2 = (-9) then (0 : Int32) else 1))), some (.int (x3 + 1)), some (.int v2)]) rfl).trans ?_
      refine (rn_goto d_H_howManySee_49 (t := 4) (by decide)).trans ?_
      rfl
    · refine (rn_ld d_H_howManySee_16 rfl rfl rfl rfl).trans ?_
      refine (rn_ld d_H_howManySee_17 rfl rfl rfl rfl).trans ?_
      refine (rn_vI d_H_howManySee_18 (zinv_v l_0_93 (by decide) (Nat.le_of_ble_eq_true rfl) rfl rfl H.c (Nat.le_of_ble_eq_true rfl)) (Nat.le_of_ble_eq_true rfl) (Or.inl rfl)).trans (zbI_congr fun v5 h4 => ?_)
      refine (rn_goto d_H_howManySee_21 (t := 29) (by decide)).trans ?_
      refine (rn_st d_H_howManySee_29 rfl rfl rfl (by decide) rfl (Nat.le_of_ble_eq_true rfl) (ls' := [some (.ref a), some (.int x1), some (.int x2), some (.int x3), some (.int v5)]) rfl).trans ?_
      refine (rn_ld d_H_howManySee_31 rfl rfl rfl rfl).trans ?_
      refine (rn_ld d_H_howManySee_32 rfl rfl rfl rfl).trans ?_
      refine (rn_push d_H_howManySee_34 zcs_bipush_m9).trans ?_
      refine Eq.trans (b := zrn X 3 m_H_howManySee 44 [some (.ref a), some (.int x1), some (.int x2), some (.int x3), some (.int v5)] [.int (if v5 = (-9) then (0 : Int32) else 1), .int x2] h4) ?_ ?_
      · refine (rn_ic_eq d_H_howManySee_36 (t := 43) (by decide)).trans ?_
        by_cases q6 : v5 = (-9)
        · simp only [if_pos q6]
          refine (rn_push d_H_howManySee_43 zcs_iconst_0).trans ?_
          all_goals rfl
        · simp only [if_neg q6]
          refine (rn_push d_H_howManySee_39 zcs_iconst_1).trans ?_
          refine (rn_goto d_H_howManySee_40 (t := 44) (by decide)).trans ?_
          all_goals rfl
      refine (rn_a2 d_H_howManySee_44 rfl).trans ?_
      refine (rn_st d_H_howManySee_45 rfl rfl rfl (by decide) rfl (Nat.le_of_ble_eq_true rfl) (ls' := [some (.ref a), some (.int x1), some (.int (x2 + (if v5 = (-9) then (0 : Int32) else 1))), some (.int x3), some (.int v5)]) rfl).trans ?_
      refine (rn_inc d_H_howManySee_46 rfl (c := 1) (by decide) (ls' := [some (.ref a), some (.int x1), some (.int (x2 + (if v5 = (-9) then (0 : Int32) else 1))), some (.int (x3 + 1)), some (.int v5)]) rfl).trans ?_
      refine (rn_goto d_H_howManySee_49 (t := 4) (by decide)).trans ?_
      rfl
theorem e_H_howManySee {X : zX} {a : Nat} {x1 : Int32} {h : zH} (H : isH a) : zcf X m_H_howManySee [.ref a, .int x1] h = zrn X 3 m_H_howManySee 4 [some (.ref a), some (.int x1), some (.int 0), some (.int 0), none] [] h := by
  refine (zcf_run (Nat.le_of_ble_eq_true rfl)).trans ?_
  show zrn X 3 m_H_howManySee 0 [some (.ref a), some (.int x1), none, none, none] [] h = _
  refine (rn_push d_H_howManySee_0 zcs_iconst_0).trans ?_
  refine (rn_st d_H_howManySee_1 rfl rfl rfl (by decide) rfl (Nat.le_of_ble_eq_true rfl) (ls' := [some (.ref a), some (.int x1), some (.int 0), none, none]) rfl).trans ?_
  refine (rn_push d_H_howManySee_2 zcs_iconst_0).trans ?_
  refine (rn_st d_H_howManySee_3 rfl rfl rfl (by decide) rfl (Nat.le_of_ble_eq_true rfl) (ls' := [some (.ref a), some (.int x1), some (.int 0), some (.int 0), none]) rfl).trans ?_
  rfl
