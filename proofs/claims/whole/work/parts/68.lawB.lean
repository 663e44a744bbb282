/-! the law: its equations -/
theorem b_L_law_18 {X : zX} {x3 : Int32} {h : zH} : zrn X 15 m_L_law 18 [some (.ref 0), some (.ref 1), some (.ref 123), some (.int x3)] [] h = (if ((Int32.ofNat X.1) - 6) < x3 then (some (some (.int 1), h)) else (if zin x3 X.1 = true then (if ((X.2 (Int32.toNatClampNeg x3)) &&& 63) = 0 then zrn X 15 m_L_law 216 [some (.ref 0), some (.ref 1), some (.ref 123), some (.int x3)] [] h else (if ((X.2 (Int32.toNatClampNeg x3)) &&& 63) = 1 then zrn X 15 m_L_law 239 [some (.ref 0), some (.ref 1), some (.ref 123), some (.int x3)] [] h else (if ((X.2 (Int32.toNatClampNeg x3)) &&& 63) = 2 then zrn X 15 m_L_law 252 [some (.ref 0), some (.ref 1), some (.ref 123), some (.int x3)] [] h else (if ((X.2 (Int32.toNatClampNeg x3)) &&& 63) = 3 then zrn X 15 m_L_law 285 [some (.ref 0), some (.ref 1), some (.ref 123), some (.int x3)] [] h else (if ((X.2 (Int32.toNatClampNeg x3)) &&& 63) = 4 then zrn X 15 m_L_law 338 [some (.ref 0), some (.ref 1), some (.ref 123), some (.int x3)] [] h else (if ((X.2 (Int32.toNatClampNeg x3)) &&& 63) = 5 then zrn X 15 m_L_law 371 [some (.ref 0), some (.ref 1), some (.ref 123), some (.int x3)] [] h else (if ((X.2 (Int32.toNatClampNeg x3)) &&& 63) = 6 then zrn X 15 m_L_law 404 [some (.ref 0), some (.ref 1), some (.ref 123), some (.int x3)] [] h else (if ((X.2 (Int32.toNatClampNeg x3)) &&& 63) = 7 then zrn X 15 m_L_law 427 [some (.ref 0), some (.ref 1), some (.ref 123), some (.int x3)] [] h else (if ((X.2 (Int32.toNatClampNeg x3)) &&& 63) = 8 then zrn X 15 m_L_law 440 [some (.ref 0), some (.ref 1), some (.ref 123), some (.int x3)] [] h else (if ((X.2 (Int32.toNatClampNeg x3)) &&& 63) = 9 then zrn X 15 m_L_law 483 [some (.ref 0), some (.ref 1), some (.ref 123), some (.int x3)] [] h else (if ((X.2 (Int32.toNatClampNeg x3)) &&& 63) = 10 then zrn X 15 m_L_law 506 [some (.ref 0), some (.ref 1), some (.ref 123), some (.int x3)] [] h else (if ((X.2 (Int32.toNatClampNeg x3)) &&& 63) = 11 then zrn X 15 m_L_law 539 [some (.ref 0), some (.ref 1), some (.ref 123), some (.int x3)] [] h else (if ((X.2 (Int32.toNatClampNeg x3)) &&& 63) = 12 then zrn X 15 m_L_law 552 [some (.ref 0), some (.ref 1), some (.ref 123), some (.int x3)] [] h else (if ((X.2 (Int32.toNatClampNeg x3)) &&& 63) = 13 then zrn X 15 m_L_law 565 [some (.ref 0), some (.ref 1), some (.ref 123), some (.int x3)] [] h else (if ((X.2 (Int32.toNatClampNeg x3)) &&& 63) = 14 then zrn X 15 m_L_law 598 [some (.ref 0), some (.ref 1), some (.ref 123), some (.int x3)] [] h else (if ((X.2 (Int32.toNatClampNeg x3)) &&& 63) = 15 then zrn X 15 m_L_law 611 [some (.ref 0), some (.ref 1), some (.ref 123), some (.int x3)] [] h else (if ((X.2 (Int32.toNatClampNeg x3)) &&& 63) = 16 then zrn X 15 m_L_law 644 [some (.ref 0), some (.ref 1), some (.ref 123), some (.int x3)] [] h else (if ((X.2 (Int32.toNatClampNeg x3)) &&& 63) = 17 then zrn X 15 m_L_law 677 [some (.ref 0), some (.ref 1), some (.ref 123), some (.int x3)] [] h else (if ((X.2 (Int32.toNatClampNeg x3)) &&& 63) = 18 then zrn X 15 m_L_law 710 [some (.ref 0), some (.ref 1), some (.ref 123), some (.int x3)] [] h else (if ((X.2 (Int32.toNatClampNeg x3)) &&& 63) = 19 then zrn X 15 m_L_law 723 [some (.ref 0), some (.ref 1), some (.ref 123), some (.int x3)] [] h else (if ((X.2 (Int32.toNatClampNeg x3)) &&& 63) = 20 then zrn X 15 m_L_law 746 [some (.ref 0), some (.ref 1), some (.ref 123), some (.int x3)] [] h else (if ((X.2 (Int32.toNatClampNeg x3)) &&& 63) = 21 then zrn X 15 m_L_law 779 [some (.ref 0), some (.ref 1), some (.ref 123), some (.int x3)] [] h else (if ((X.2 (Int32.toNatClampNeg x3)) &&& 63) = 22 then zrn X 15 m_L_law 802 [some (.ref 0), some (.ref 1), some (.ref 123), some (.int x3)] [] h else (if ((X.2 (Int32.toNatClampNeg x3)) &&& 63) = 23 then zrn X 15 m_L_law 835 [some (.ref 0), some (.ref 1), some (.ref 123), some (.int x3)] [] h else (if ((X.2 (Int32.toNatClampNeg x3)) &&& 63) = 24 then zrn X 15 m_L_law 899 [some (.ref 0), some (.ref 1), some (.ref 123), some (.int x3)] [] h else (if ((X.2 (Int32.toNatClampNeg x3)) &&& 63) = 25 then zrn X 15 m_L_law 922 [some (.ref 0), some (.ref 1), some (.ref 123), some (.int x3)] [] h else (if ((X.2 (Int32.toNatClampNeg x3)) &&& 63) = 26 then zrn X 15 m_L_law 945 [some (.ref 0), some (.ref 1), some (.ref 123), some (.int x3)] [] h else (if ((X.2 (Int32.toNatClampNeg x3)) &&& 63) = 27 then zrn X 15 m_L_law 968 [some (.ref 0), some (.ref 1), some (.ref 123), some (.int x3)] [] h else (if ((X.2 (Int32.toNatClampNeg x3)) &&& 63) = 28 then zrn X 15 m_L_law 981 [some (.ref 0), some (.ref 1), some (.ref 123), some (.int x3)] [] h else (if ((X.2 (Int32.toNatClampNeg x3)) &&& 63) = 29 then zrn X 15 m_L_law 994 [some (.ref 0), some (.ref 1), some (.ref 123), some (.int x3)] [] h else (if ((X.2 (Int32.toNatClampNeg x3)) &&& 63) = 30 then zrn X 15 m_L_law 1007 [some (.ref 0), some (.ref 1), some (.ref 123), some (.int x3)] [] h else (if ((X.2 (Int32.toNatClampNeg x3)) &&& 63) = 31 then zrn X 15 m_L_law 1050 [some (.ref 0), some (.ref 1), some (.ref 123), some (.int x3)] [] h else (if ((X.2 (Int32.toNatClampNeg x3)) &&& 63) = 32 then zrn X 15 m_L_law 1083 [some (.ref 0), some (.ref 1), some (.ref 123), some (.int x3)] [] h else (if ((X.2 (Int32.toNatClampNeg x3)) &&& 63) = 33 then zrn X 15 m_L_law 1116 [some (.ref 0), some (.ref 1), some (.ref 123), some (.int x3)] [] h else (if ((X.2 (Int32.toNatClampNeg x3)) &&& 63) = 34 then zrn X 15 m_L_law 1149 [some (.ref 0), some (.ref 1), some (.ref 123), some (.int x3)] [] h else (if ((X.2 (Int32.toNatClampNeg x3)) &&& 63) = 35 then zrn X 15 m_L_law 1172 [some (.ref 0), some (.ref 1), some (.ref 123), some (.int x3)] [] h else (if ((X.2 (Int32.toNatClampNeg x3)) &&& 63) = 36 then zrn X 15 m_L_law 1195 [some (.ref 0), some (.ref 1), some (.ref 123), some (.int x3)] [] h else (if ((X.2 (Int32.toNatClampNeg x3)) &&& 63) = 37 then zrn X 15 m_L_law 1208 [some (.ref 0), some (.ref 1), some (.ref 123), some (.int x3)] [] h else (if ((X.2 (Int32.toNatClampNeg x3)) &&& 63) = 38 then zrn X 15 m_L_law 1221 [some (.ref 0), some (.ref 1), some (.ref 123), some (.int x3)] [] h else (if ((X.2 (Int32.toNatClampNeg x3)) &&& 63) = 39 then zrn X 15 m_L_law 1264 [some (.ref 0), some (.ref 1), some (.ref 123), some (.int x3)] [] h else (if ((X.2 (Int32.toNatClampNeg x3)) &&& 63) = 40 then zrn X 15 m_L_law 1277 [some (.ref 0), some (.ref 1), some (.ref 123), some (.int x3)] [] h else (if ((X.2 (Int32.toNatClampNeg x3)) &&& 63) = 41 then zrn X 15 m_L_law 1290 [some (.ref 0), some (.ref 1), some (.ref 123), some (.int x3)] [] h else zrn X 15 m_L_law 1313 [some (.ref 0), some (.ref 1), some (.ref 123), some (.int x3)] [] h)))))))))))))))))))))))))))))))))))))))))) else none)) := by
  refine (rn_ld d_L_law_18 rfl rfl rfl rfl).trans ?_
  refine (rn_ld d_L_law_19 rfl rfl rfl rfl).trans ?_
  refine (rn_slen d_L_law_20).trans ?_
  refine (rn_push d_L_law_21 zcs_bipush_6).trans ?_
  refine (rn_a2 d_L_law_23 rfl).trans ?_
  refine (rn_ic_gt d_L_law_24 (t := 1319) (by decide)).trans (zif ?_ ?_)
  · refine (rn_push d_L_law_1319 zcs_iconst_1).trans ?_
    exact rn_rz d_L_law_1320 rfl (by decide)
  · refine (rn_ld d_L_law_27 rfl rfl rfl rfl).trans ?_
    refine (rn_ld d_L_law_28 rfl rfl rfl rfl).trans ?_
    refine (rn_sld d_L_law_29).trans (zif ?_ rfl)
    refine (rn_push d_L_law_30 zcs_bipush_63).trans ?_
    refine (rn_a2 d_L_law_32 rfl).trans ?_
    refine zite (fun q1 => ?_) (fun q1 => ?_)
    · refine (rn_tsw d_L_law_33 (t := 216) (by rw [q1]; decide +kernel)).trans ?_
      rfl
    · refine zite (fun q2 => ?_) (fun q2 => ?_)
      · refine (rn_tsw d_L_law_33 (t := 239) (by rw [q2]; decide +kernel)).trans ?_
        rfl
      · refine zite (fun q3 => ?_) (fun q3 => ?_)
        · refine (rn_tsw d_L_law_33 (t := 252) (by rw [q3]; decide +kernel)).trans ?_
          rfl
        · refine zite (fun q4 => ?_) (fun q4 => ?_)
          · refine (rn_tsw d_L_law_33 (t := 285) (by rw [q4]; decide +kernel)).trans ?_
            rfl
          · refine zite (fun q5 => ?_) (fun q5 => ?_)
            · refine (rn_tsw d_L_law_33 (t := 338) (by rw [q5]; decide +kernel)).trans ?_
              rfl
            · refine zite (fun q6 => ?_) (fun q6 => ?_)
              · refine (rn_tsw d_L_law_33 (t := 371) (by rw [q6]; decide +kernel)).trans ?_
                rfl
              · refine zite (fun q7 => ?_) (fun q7 => ?_)
                · refine (rn_tsw d_L_law_33 (t := 404) (by rw [q7]; decide +kernel)).trans ?_
                  rfl
                · refine zite (fun q8 => ?_) (fun q8 => ?_)
                  · refine (rn_tsw d_L_law_33 (t := 427) (by rw [q8]; decide +kernel)).trans ?_
                    rfl
                  · refine zite (fun q9 => ?_) (fun q9 => ?_)
                    · refine (rn_tsw d_L_law_33 (t := 440) (by rw [q9]; decide +kernel)).trans ?_
                      rfl
                    · refine zite (fun q10 => ?_) (fun q10 => ?_)
                      · refine (rn_tsw d_L_law_33 (t := 483) (by rw [q10]; decide +kernel)).trans ?_
                        rfl
                      · refine zite (fun q11 => ?_) (fun q11 => ?_)
                        · refine (rn_tsw d_L_law_33 (t := 506) (by rw [q11]; decide +kernel)).trans ?_
                          rfl
                        · refine zite (fun q12 => ?_) (fun q12 => ?_)
                          · refine (rn_tsw d_L_law_33 (t := 539) (by rw [q12]; decide +kernel)).trans ?_
                            rfl
                          · refine zite (fun q13 => ?_) (fun q13 => ?_)
                            · refine (rn_tsw d_L_law_33 (t := 552) (by rw [q13]; decide +kernel)).trans ?_
                              rfl
                            · refine zite (fun q14 => ?_) (fun q14 => ?_)
                              · refine (rn_tsw d_L_law_33 (t := 565) (by rw [q14]; decide +kernel)).trans ?_
                                rfl
                              · refine zite (fun q15 => ?_) (fun q15 => ?_)
                                · refine (rn_tsw d_L_law_33 (t := 598) (by rw [q15]; decide +kernel)).trans ?_
                                  rfl
                                · refine zite (fun q16 => ?_) (fun q16 => ?_)
                                  · refine (rn_tsw d_L_law_33 (t := 611) (by rw [q16]; decide +kernel)).trans ?_
                                    rfl
                                  · refine zite (fun q17 => ?_) (fun q17 => ?_)
                                    · refine (rn_tsw d_L_law_33 (t := 644) (by rw [q17]; decide +kernel)).trans ?_
                                      rfl
                                    · refine zite (fun q18 => ?_) (fun q18 => ?_)
                                      · refine (rn_tsw d_L_law_33 (t := 677) (by rw [q18]; decide +kernel)).trans ?_
                                        rfl
                                      · refine zite (fun q19 => ?_) (fun q19 => ?_)
                                        · refine (rn_tsw d_L_law_33 (t := 710) (by rw [q19]; decide +kernel)).trans ?_
                                          rfl
                                        · refine zite (fun q20 => ?_) (fun q20 => ?_)
                                          · refine (rn_tsw d_L_law_33 (t := 723) (by rw [q20]; decide +kernel)).trans ?_
                                            rfl
                                          · refine zite (fun q21 => ?_) (fun q21 => ?_)
                                            · refine (rn_tsw d_L_law_33 (t := 746) (by rw [q21]; decide +kernel)).trans ?_
                                              rfl
                                            · refine zite (fun q22 => ?_) (fun q22 => ?_)
                                              · refine (rn_tsw d_L_law_33 (t := 779) (by rw [q22]; decide +kernel)).trans ?_
                                                rfl
                                              · refine zite (fun q23 => ?_) (fun q23 => ?_)
                                                · refine (rn_tsw d_L_law_33 (t := 802) (by rw [q23]; decide +kernel)).trans ?_
                                                  rfl
                                                · refine zite (fun q24 => ?_) (fun q24 => ?_)
                                                  · refine (rn_tsw d_L_law_33 (t := 835) (by rw [q24]; decide +kernel)).trans ?_
                                                    rfl
                                                  · refine zite (fun q25 => ?_) (fun q25 => ?_)
                                                    · refine (rn_tsw d_L_law_33 (t := 899) (by rw [q25]; decide +kernel)).trans ?_
                                                      rfl
                                                    · refine zite (fun q26 => ?_) (fun q26 => ?_)
                                                      · refine (rn_tsw d_L_law_33 (t := 922) (by rw [q26]; decide +kernel)).trans ?_
                                                        rfl
                                                      · refine zite (fun q27 => ?_) (fun q27 => ?_)
                                                        · refine (rn_tsw d_L_law_33 (t := 945) (by rw [q27]; decide +kernel)).trans ?_
                                                          rfl
                                                        · refine zite (fun q28 => ?_) (fun q28 => ?_)
                                                          · refine (rn_tsw d_L_law_33 (t := 968) (by rw [q28]; decide +kernel)).trans ?_
                                                            rfl
                                                          · refine zite (fun q29 => ?_) (fun q29 => ?_)
                                                            · refine (rn_tsw d_L_law_33 (t := 981) (by rw [q29]; decide +kernel)).trans ?_
                                                              rfl
                                                            · refine zite (fun q30 => ?_) (fun q30 => ?_)
                                                              · refine (rn_tsw d_L_law_33 (t := 994) (by rw [q30]; decide +kernel)).trans ?_
                                                                rfl
                                                              · refine zite (fun q31 => ?_) (fun q31 => ?_)
                                                                · refine (rn_tsw d_L_law_33 (t := 1007) (by rw [q31]; decide +kernel)).trans ?_
                                                                  rfl
                                                                · refine zite (fun q32 => ?_) (fun q32 => ?_)
                                                                  · refine (rn_tsw d_L_law_33 (t := 1050) (by rw [q32]; decide +kernel)).trans ?_
                                                                    rfl
                                                                  · refine zite (fun q33 => ?_) (fun q33 => ?_)
                                                                    · refine (rn_tsw d_L_law_33 (t := 1083) (by rw [q33]; decide +kernel)).trans ?_
                                                                      rfl
                                                                    · refine zite (fun q34 => ?_) (fun q34 => ?_)
                                                                      · refine (rn_tsw d_L_law_33 (t := 1116) (by rw [q34]; decide +kernel)).trans ?_
                                                                        rfl
                                                                      · refine zite (fun q35 => ?_) (fun q35 => ?_)
                                                                        · refine (rn_tsw d_L_law_33 (t := 1149) (by rw [q35]; decide +kernel)).trans ?_
                                                                          rfl
                                                                        · refine zite (fun q36 => ?_) (fun q36 => ?_)
                                                                          · refine (rn_tsw d_L_law_33 (t := 1172) (by rw [q36]; decide +kernel)).trans ?_
                                                                            rfl
                                                                          · refine zite (fun q37 => ?_) (fun q37 => ?_)
                                                                            · refine (rn_tsw d_L_law_33 (t := 1195) (by rw [q37]; decide +kernel)).trans ?_
                                                                              rfl
                                                                            · refine zite (fun q38 => ?_) (fun q38 => ?_)
                                                                              · refine (rn_tsw d_L_law_33 (t := 1208) (by rw [q38]; decide +kernel)).trans ?_
                                                                                rfl
                                                                              · refine zite (fun q39 => ?_) (fun q39 => ?_)
                                                                                · refine (rn_tsw d_L_law_33 (t := 1221) (by rw [q39]; decide +kernel)).trans ?_
                                                                                  rfl
                                                                                · refine zite (fun q40 => ?_) (fun q40 => ?_)
                                                                                  · refine (rn_tsw d_L_law_33 (t := 1264) (by rw [q40]; decide +kernel)).trans ?_
                                                                                    rfl
                                                                                  · refine zite (fun q41 => ?_) (fun q41 => ?_)
                                                                                    · refine (rn_tsw d_L_law_33 (t := 1277) (by rw [q41]; decide +kernel)).trans ?_
                                                                                      rfl
                                                                                    · refine zite (fun q42 => ?_) (fun q42 => ?_)
                                                                                      · refine (rn_tsw d_L_law_33 (t := 1290) (by rw [q42]; decide +kernel)).trans ?_
                                                                                        rfl
                                                                                      · refine (rn_tsw d_L_law_33 (t := 1313) (zsw_out (by have z0 := lv_neT q1 (a := 0) rfl; have z1 := lv_neT q2 (a := 1) rfl; have z2 := lv_neT q3 (a := 2) rfl; have z3 := lv_neT q4 (a := 3) rfl; have z4 := lv_neT q5 (a := 4) rfl; have z5 := lv_neT q6 (a := 5) rfl; have z6 := lv_neT q7 (a := 6) rfl; have z7 := lv_neT q8 (a := 7) rfl; have z8 := lv_neT q9 (a := 8) rfl; have z9 := lv_neT q10 (a := 9) rfl; have z10 := lv_neT q11 (a := 10) rfl; have z11 := lv_neT q12 (a := 11) rfl; have z12 := lv_neT q13 (a := 12) rfl; have z13 := lv_neT q14 (a := 13) rfl; have z14 := lv_neT q15 (a := 14) rfl; have z15 := lv_neT q16 (a := 15) rfl; have z16 := lv_neT q17 (a := 16) rfl; have z17 := lv_neT q18 (a := 17) rfl; have z18 := lv_neT q19 (a := 18) rfl; have z19 := lv_neT q20 (a := 19) rfl; have z20 := lv_neT q21 (a := 20) rfl; have z21 := lv_neT q22 (a := 21) rfl; have z22 := lv_neT q23 (a := 22) rfl; have z23 := lv_neT q24 (a := 23) rfl; have z24 := lv_neT q25 (a := 24) rfl; have z25 := lv_neT q26 (a := 25) rfl; have z26 := lv_neT q27 (a := 26) rfl; have z27 := lv_neT q28 (a := 27) rfl; have z28 := lv_neT q29 (a := 28) rfl; have z29 := lv_neT q30 (a := 29) rfl; have z30 := lv_neT q31 (a := 30) rfl; have z31 := lv_neT q32 (a := 31) rfl; have z32 := lv_neT q33 (a := 32) rfl; have z33 := lv_neT q34 (a := 33) rfl; have z34 := lv_neT q35 (a := 34) rfl; have z35 := lv_neT q36 (a := 35) rfl; have z36 := lv_neT q37 (a := 36) rfl; have z37 := lv_neT q38 (a := 37) rfl; have z38 := lv_neT q39 (a := 38) rfl; have z39 := lv_neT q40 (a := 39) rfl; have z40 := lv_neT q41 (a := 40) rfl; have z41 := lv_neT q42 (a := 41) rfl; omega) (by decide))).trans ?_
                                                                                        rfl
theorem b_L_law_216 {X : zX} {x3 : Int32} {h : zH} : zrn X 15 m_L_law 216 [some (.ref 0), some (.ref 1), some (.ref 123), some (.int x3)] [] h = (if zin (x3 + 1) X.1 = true then (zbI (zcf X m_X_feed [.ref 1, .int (X.2 (Int32.toNatClampNeg (x3 + 1)))] h) fun v2 h1 => (if zin (x3 + 1) X.1 = true then (zbI (zcf X m_M_feed [.ref 123, .int (X.2 (Int32.toNatClampNeg (x3 + 1)))] h1) fun v4 h3 => (if v2 = v4 then zrn X 15 m_L_law 1313 [some (.ref 0), some (.ref 1), some (.ref 123), some (.int x3)] [] h3 else (some (some (.int 0), h3)))) else none)) else none) := by
  refine (rn_ld d_L_law_216 rfl rfl rfl rfl).trans ?_
  refine (rn_ld d_L_law_217 rfl rfl rfl rfl).trans ?_
  refine (rn_ld d_L_law_218 rfl rfl rfl rfl).trans ?_
  refine (rn_push d_L_law_219 zcs_iconst_1).trans ?_
  refine (rn_a2 d_L_law_220 rfl).trans ?_
  refine (rn_sld d_L_law_221).trans (zif ?_ rfl)
  refine (rn_vI d_L_law_222 (zinv_v l_5_13 (by decide) (Nat.le_of_ble_eq_true rfl) rfl rfl zc_1 (Nat.le_of_ble_eq_true rfl)) (Nat.le_of_ble_eq_true rfl) (Or.inl rfl)).trans (zbI_congr fun v2 h1 => ?_)
  refine (rn_ld d_L_law_225 rfl rfl rfl rfl).trans ?_
  refine (rn_ld d_L_law_226 rfl rfl rfl rfl).trans ?_
  refine (rn_ld d_L_law_227 rfl rfl rfl rfl).trans ?_
  refine (rn_push d_L_law_228 zcs_iconst_1).trans ?_
  refine (rn_a2 d_L_law_229 rfl).trans ?_
  refine (rn_sld d_L_law_230).trans (zif ?_ rfl)
  refine (rn_vI d_L_law_231 (zinv_v l_5_17 (by decide) (Nat.le_of_ble_eq_true rfl) rfl rfl zc_123 (Nat.le_of_ble_eq_true rfl)) (Nat.le_of_ble_eq_true rfl) (Or.inl rfl)).trans (zbI_congr fun v4 h3 => ?_)
  refine (rn_ic_eq d_L_law_234 (t := 1313) (by decide)).trans (zif ?_ ?_)
  · rfl
  · refine (rn_push d_L_law_237 zcs_iconst_0).trans ?_
    exact rn_rz d_L_law_238 rfl (by decide)
theorem b_L_law_239 {X : zX} {x3 : Int32} {h : zH} : zrn X 15 m_L_law 239 [some (.ref 0), some (.ref 1), some (.ref 123), some (.int x3)] [] h = (zbI (zcf X m_X_hill [.ref 1] h) fun v2 h1 => (zbI (zcf X m_M_hill [.ref 123] h1) fun v4 h3 => (if v2 = v4 then zrn X 15 m_L_law 1313 [some (.ref 0), some (.ref 1), some (.ref 123), some (.int x3)] [] h3 else (some (some (.int 0), h3))))) := by
  refine (rn_ld d_L_law_239 rfl rfl rfl rfl).trans ?_
  refine (rn_vI d_L_law_240 (zinv_v l_5_18 (by decide) (Nat.le_of_ble_eq_true rfl) rfl rfl zc_1 (Nat.le_of_ble_eq_true rfl)) (Nat.le_of_ble_eq_true rfl) (Or.inl rfl)).trans (zbI_congr fun v2 h1 => ?_)
  refine (rn_ld d_L_law_243 rfl rfl rfl rfl).trans ?_
  refine (rn_vI d_L_law_244 (zinv_v l_5_22 (by decide) (Nat.le_of_ble_eq_true rfl) rfl rfl zc_123 (Nat.le_of_ble_eq_true rfl)) (Nat.le_of_ble_eq_true rfl) (Or.inl rfl)).trans (zbI_congr fun v4 h3 => ?_)
  refine (rn_ic_eq d_L_law_247 (t := 1313) (by decide)).trans (zif ?_ ?_)
  · rfl
  · refine (rn_push d_L_law_250 zcs_iconst_0).trans ?_
    exact rn_rz d_L_law_251 rfl (by decide)
theorem b_L_law_252 {X : zX} {x3 : Int32} {h : zH} : zrn X 15 m_L_law 252 [some (.ref 0), some (.ref 1), some (.ref 123), some (.int x3)] [] h = (if zin (x3 + 1) X.1 = true then (if zin (x3 + 2) X.1 = true then (zbI (zcf X m_X_personOf [.ref 1, .int (X.2 (Int32.toNatClampNeg (x3 + 1))), .int (X.2 (Int32.toNatClampNeg (x3 + 2)))] h) fun v2 h1 => (if zin (x3 + 1) X.1 = true then (if zin (x3 + 2) X.1 = true then (zbI (zcf X m_M_personOf [.ref 123, .int (X.2 (Int32.toNatClampNeg (x3 + 1))), .int (X.2 (Int32.toNatClampNeg (x3 + 2)))] h1) fun v4 h3 => (if v2 = v4 then zrn X 15 m_L_law 1313 [some (.ref 0), some (.ref 1), some (.ref 123), some (.int x3)] [] h3 else (some (some (.int 0), h3)))) else none) else none)) else none) else none) := by
  refine (rn_ld d_L_law_252 rfl rfl rfl rfl).trans ?_
  refine (rn_ld d_L_law_253 rfl rfl rfl rfl).trans ?_
  refine (rn_ld d_L_law_254 rfl rfl rfl rfl).trans ?_
  refine (rn_push d_L_law_255 zcs_iconst_1).trans ?_
  refine (rn_a2 d_L_law_256 rfl).trans ?_
  refine (rn_sld d_L_law_257).trans (zif ?_ rfl)
  refine (rn_ld d_L_law_258 rfl rfl rfl rfl).trans ?_
  refine (rn_ld d_L_law_259 rfl rfl rfl rfl).trans ?_
  refine (rn_push d_L_law_260 zcs_iconst_2).trans ?_
  refine (rn_a2 d_L_law_261 rfl).trans ?_
  refine (rn_sld d_L_law_262).trans (zif ?_ rfl)
  refine (rn_vI d_L_law_263 (zinv_v l_5_23 (by decide) (Nat.le_of_ble_eq_true rfl) rfl rfl zc_1 (Nat.le_of_ble_eq_true rfl)) (Nat.le_of_ble_eq_true rfl) (Or.inl rfl)).trans (zbI_congr fun v2 h1 => ?_)
  refine (rn_ld d_L_law_266 rfl rfl rfl rfl).trans ?_
  refine (rn_ld d_L_law_267 rfl rfl rfl rfl).trans ?_
  refine (rn_ld d_L_law_268 rfl rfl rfl rfl).trans ?_
  refine (rn_push d_L_law_269 zcs_iconst_1).trans ?_
  refine (rn_a2 d_L_law_270 rfl).trans ?_
  refine (rn_sld d_L_law_271).trans (zif ?_ rfl)
  refine (rn_ld d_L_law_272 rfl rfl rfl rfl).trans ?_
  refine (rn_ld d_L_law_273 rfl rfl rfl rfl).trans ?_
  refine (rn_push d_L_law_274 zcs_iconst_2).trans ?_
  refine (rn_a2 d_L_law_275 rfl).trans ?_
  refine (rn_sld d_L_law_276).trans (zif ?_ rfl)
  refine (rn_vI d_L_law_277 (zinv_v l_5_27 (by decide) (Nat.le_of_ble_eq_true rfl) rfl rfl zc_123 (Nat.le_of_ble_eq_true rfl)) (Nat.le_of_ble_eq_true rfl) (Or.inl rfl)).trans (zbI_congr fun v4 h3 => ?_)
  refine (rn_ic_eq d_L_law_280 (t := 1313) (by decide)).trans (zif ?_ ?_)
  · rfl
  · refine (rn_push d_L_law_283 zcs_iconst_0).trans ?_
    exact rn_rz d_L_law_284 rfl (by decide)
theorem b_L_law_285 {X : zX} {x3 : Int32} {h : zH} : zrn X 15 m_L_law 285 [some (.ref 0), some (.ref 1), some (.ref 123), some (.int x3)] [] h = (if zin (x3 + 1) X.1 = true then (if zin (x3 + 2) X.1 = true then (if zin (x3 + 3) X.1 = true then (if zin (x3 + 4) X.1 = true then (zbI (zcf X m_X_person [.ref 1, .int (X.2 (Int32.toNatClampNeg (x3 + 1))), .int (X.2 (Int32.toNatClampNeg (x3 + 2))), .int (X.2 (Int32.toNatClampNeg (x3 + 3))), .int (X.2 (Int32.toNatClampNeg (x3 + 4)))] h) fun v2 h1 => (if zin (x3 + 1) X.1 = true then (if zin (x3 + 2) X.1 = true then (if zin (x3 + 3) X.1 = true then (if zin (x3 + 4) X.1 = true then (zbI (zcf X m_M_person [.ref 123, .int (X.2 (Int32.toNatClampNeg (x3 + 1))), .int (X.2 (Int32.toNatClampNeg (x3 + 2))), .int (X.2 (Int32.toNatClampNeg (x3 + 3))), .int (X.2 (Int32.toNatClampNeg (x3 + 4)))] h1) fun v4 h3 => (if v2 = v4 then zrn X 15 m_L_law 1313 [some (.ref 0), some (.ref 1), some (.ref 123), some (.int x3)] [] h3 else (some (some (.int 0), h3)))) else none) else none) else none) else none)) else none) else none) else none) else none) := by
  refine (rn_ld d_L_law_285 rfl rfl rfl rfl).trans ?_
  refine (rn_ld d_L_law_286 rfl rfl rfl rfl).trans ?_
  refine (rn_ld d_L_law_287 rfl rfl rfl rfl).trans ?_
  refine (rn_push d_L_law_288 zcs_iconst_1).trans ?_
  refine (rn_a2 d_L_law_289 rfl).trans ?_
  refine (rn_sld d_L_law_290).trans (zif ?_ rfl)
  refine (rn_ld d_L_law_291 rfl rfl rfl rfl).trans ?_
  refine (rn_ld d_L_law_292 rfl rfl rfl rfl).trans ?_
  refine (rn_push d_L_law_293 zcs_iconst_2).trans ?_
  refine (rn_a2 d_L_law_294 rfl).trans ?_
  refine (rn_sld d_L_law_295).trans (zif ?_ rfl)
  refine (rn_ld d_L_law_296 rfl rfl rfl rfl).trans ?_
  refine (rn_ld d_L_law_297 rfl rfl rfl rfl).trans ?_
  refine (rn_push d_L_law_298 zcs_iconst_3).trans ?_
  refine (rn_a2 d_L_law_299 rfl).trans ?_
  refine (rn_sld d_L_law_300).trans (zif ?_ rfl)
  refine (rn_ld d_L_law_301 rfl rfl rfl rfl).trans ?_
  refine (rn_ld d_L_law_302 rfl rfl rfl rfl).trans ?_
  refine (rn_push d_L_law_303 zcs_iconst_4).trans ?_
  refine (rn_a2 d_L_law_304 rfl).trans ?_
  refine (rn_sld d_L_law_305).trans (zif ?_ rfl)
  refine (rn_vI d_L_law_306 (zinv_v l_5_28 (by decide) (Nat.le_of_ble_eq_true rfl) rfl rfl zc_1 (Nat.le_of_ble_eq_true rfl)) (Nat.le_of_ble_eq_true rfl) (Or.inl rfl)).trans (zbI_congr fun v2 h1 => ?_)
  refine (rn_ld d_L_law_309 rfl rfl rfl rfl).trans ?_
  refine (rn_ld d_L_law_310 rfl rfl rfl rfl).trans ?_
  refine (rn_ld d_L_law_311 rfl rfl rfl rfl).trans ?_
  refine (rn_push d_L_law_312 zcs_iconst_1).trans ?_
  refine (rn_a2 d_L_law_313 rfl).trans ?_
  refine (rn_sld d_L_law_314).trans (zif ?_ rfl)
  refine (rn_ld d_L_law_315 rfl rfl rfl rfl).trans ?_
  refine (rn_ld d_L_law_316 rfl rfl rfl rfl).trans ?_
  refine (rn_push d_L_law_317 zcs_iconst_2).trans ?_
  refine (rn_a2 d_L_law_318 rfl).trans ?_
  refine (rn_sld d_L_law_319).trans (zif ?_ rfl)
  refine (rn_ld d_L_law_320 rfl rfl rfl rfl).trans ?_
  refine (rn_ld d_L_law_321 rfl rfl rfl rfl).trans ?_
  refine (rn_push d_L_law_322 zcs_iconst_3).trans ?_
  refine (rn_a2 d_L_law_323 rfl).trans ?_
  refine (rn_sld d_L_law_324).trans (zif ?_ rfl)
  refine (rn_ld d_L_law_325 rfl rfl rfl rfl).trans ?_
  refine (rn_ld d_L_law_326 rfl rfl rfl rfl).trans ?_
  refine (rn_push d_L_law_327 zcs_iconst_4).trans ?_
  refine (rn_a2 d_L_law_328 rfl).trans ?_
  refine (rn_sld d_L_law_329).trans (zif ?_ rfl)
  refine (rn_vI d_L_law_330 (zinv_v l_5_32 (by decide) (Nat.le_of_ble_eq_true rfl) rfl rfl zc_123 (Nat.le_of_ble_eq_true rfl)) (Nat.le_of_ble_eq_true rfl) (Or.inl rfl)).trans (zbI_congr fun v4 h3 => ?_)
  refine (rn_ic_eq d_L_law_333 (t := 1313) (by decide)).trans (zif ?_ ?_)
  · rfl
  · refine (rn_push d_L_law_336 zcs_iconst_0).trans ?_
    exact rn_rz d_L_law_337 rfl (by decide)
theorem b_L_law_338 {X : zX} {x3 : Int32} {h : zH} : zrn X 15 m_L_law 338 [some (.ref 0), some (.ref 1), some (.ref 123), some (.int x3)] [] h = (if zin (x3 + 1) X.1 = true then (if zin (x3 + 2) X.1 = true then (zbI (zcf X m_X_turns [.ref 1, .int (X.2 (Int32.toNatClampNeg (x3 + 1))), .int (X.2 (Int32.toNatClampNeg (x3 + 2)))] h) fun v2 h1 => (if zin (x3 + 1) X.1 = true then (if zin (x3 + 2) X.1 = true then (zbI (zcf X m_M_turns [.ref 123, .int (X.2 (Int32.toNatClampNeg (x3 + 1))), .int (X.2 (Int32.toNatClampNeg (x3 + 2)))] h1) fun v4 h3 => (if v2 = v4 then zrn X 15 m_L_law 1313 [some (.ref 0), some (.ref 1), some (.ref 123), some (.int x3)] [] h3 else (some (some (.int 0), h3)))) else none) else none)) else none) else none) := by
  refine (rn_ld d_L_law_338 rfl rfl rfl rfl).trans ?_
  refine (rn_ld d_L_law_339 rfl rfl rfl rfl).trans ?_
  refine (rn_ld d_L_law_340 rfl rfl rfl rfl).trans ?_
  refine (rn_push d_L_law_341 zcs_iconst_1).trans ?_
  refine (rn_a2 d_L_law_342 rfl).trans ?_
  refine (rn_sld d_L_law_343).trans (zif ?_ rfl)
  refine (rn_ld d_L_law_344 rfl rfl rfl rfl).trans ?_
  refine (rn_ld d_L_law_345 rfl rfl rfl rfl).trans ?_
  refine (rn_push d_L_law_346 zcs_iconst_2).trans ?_
  refine (rn_a2 d_L_law_347 rfl).trans ?_
  refine (rn_sld d_L_law_348).trans (zif ?_ rfl)
  refine (rn_vI d_L_law_349 (zinv_v l_5_33 (by decide) (Nat.le_of_ble_eq_true rfl) rfl rfl zc_1 (Nat.le_of_ble_eq_true rfl)) (Nat.le_of_ble_eq_true rfl) (Or.inl rfl)).trans (zbI_congr fun v2 h1 => ?_)
  refine (rn_ld d_L_law_352 rfl rfl rfl rfl).trans ?_
  refine (rn_ld d_L_law_353 rfl rfl rfl rfl).trans ?_
  refine (rn_ld d_L_law_354 rfl rfl rfl rfl).trans ?_
  refine (rn_push d_L_law_355 zcs_iconst_1).trans ?_
  refine (rn_a2 d_L_law_356 rfl).trans ?_
  refine (rn_sld d_L_law_357).trans (zif ?_ rfl)
  refine (rn_ld d_L_law_358 rfl rfl rfl rfl).trans ?_
  refine (rn_ld d_L_law_359 rfl rfl rfl rfl).trans ?_
  refine (rn_push d_L_law_360 zcs_iconst_2).trans ?_
  refine (rn_a2 d_L_law_361 rfl).trans ?_
  refine (rn_sld d_L_law_362).trans (zif ?_ rfl)
  refine (rn_vI d_L_law_363 (zinv_v l_5_36 (by decide) (Nat.le_of_ble_eq_true rfl) rfl rfl zc_123 (Nat.le_of_ble_eq_true rfl)) (Nat.le_of_ble_eq_true rfl) (Or.inl rfl)).trans (zbI_congr fun v4 h3 => ?_)
  refine (rn_ic_eq d_L_law_366 (t := 1313) (by decide)).trans (zif ?_ ?_)
  · rfl
  · refine (rn_push d_L_law_369 zcs_iconst_0).trans ?_
    exact rn_rz d_L_law_370 rfl (by decide)
theorem b_L_law_371 {X : zX} {x3 : Int32} {h : zH} : zrn X 15 m_L_law 371 [some (.ref 0), some (.ref 1), some (.ref 123), some (.int x3)] [] h = (if zin (x3 + 1) X.1 = true then (if zin (x3 + 2) X.1 = true then (zbI (zcf X m_X_stands [.ref 1, .int (X.2 (Int32.toNatClampNeg (x3 + 1))), .int (X.2 (Int32.toNatClampNeg (x3 + 2)))] h) fun v2 h1 => (if zin (x3 + 1) X.1 = true then (if zin (x3 + 2) X.1 = true then (zbI (zcf X m_M_stands [.ref 123, .int (X.2 (Int32.toNatClampNeg (x3 + 1))), .int (X.2 (Int32.toNatClampNeg (x3 + 2)))] h1) fun v4 h3 => (if v2 = v4 then zrn X 15 m_L_law 1313 [some (.ref 0), some (.ref 1), some (.ref 123), some (.int x3)] [] h3 else (some (some (.int 0), h3)))) else none) else none)) else none) else none) := by
  refine (rn_ld d_L_law_371 rfl rfl rfl rfl).trans ?_
  refine (rn_ld d_L_law_372 rfl rfl rfl rfl).trans ?_
  refine (rn_ld d_L_law_373 rfl rfl rfl rfl).trans ?_
  refine (rn_push d_L_law_374 zcs_iconst_1).trans ?_
  refine (rn_a2 d_L_law_375 rfl).trans ?_
  refine (rn_sld d_L_law_376).trans (zif ?_ rfl)
  refine (rn_ld d_L_law_377 rfl rfl rfl rfl).trans ?_
  refine (rn_ld d_L_law_378 rfl rfl rfl rfl).trans ?_
  refine (rn_push d_L_law_379 zcs_iconst_2).trans ?_
  refine (rn_a2 d_L_law_380 rfl).trans ?_
  refine (rn_sld d_L_law_381).trans (zif ?_ rfl)
  refine (rn_vI d_L_law_382 (zinv_v l_5_37 (by decide) (Nat.le_of_ble_eq_true rfl) rfl rfl zc_1 (Nat.le_of_ble_eq_true rfl)) (Nat.le_of_ble_eq_true rfl) (Or.inl rfl)).trans (zbI_congr fun v2 h1 => ?_)
  refine (rn_ld d_L_law_385 rfl rfl rfl rfl).trans ?_
  refine (rn_ld d_L_law_386 rfl rfl rfl rfl).trans ?_
  refine (rn_ld d_L_law_387 rfl rfl rfl rfl).trans ?_
  refine (rn_push d_L_law_388 zcs_iconst_1).trans ?_
  refine (rn_a2 d_L_law_389 rfl).trans ?_
  refine (rn_sld d_L_law_390).trans (zif ?_ rfl)
  refine (rn_ld d_L_law_391 rfl rfl rfl rfl).trans ?_
  refine (rn_ld d_L_law_392 rfl rfl rfl rfl).trans ?_
  refine (rn_push d_L_law_393 zcs_iconst_2).trans ?_
  refine (rn_a2 d_L_law_394 rfl).trans ?_
  refine (rn_sld d_L_law_395).trans (zif ?_ rfl)
  refine (rn_vI d_L_law_396 (zinv_v l_5_40 (by decide) (Nat.le_of_ble_eq_true rfl) rfl rfl zc_123 (Nat.le_of_ble_eq_true rfl)) (Nat.le_of_ble_eq_true rfl) (Or.inl rfl)).trans (zbI_congr fun v4 h3 => ?_)
  refine (rn_ic_eq d_L_law_399 (t := 1313) (by decide)).trans (zif ?_ ?_)
  · rfl
  · refine (rn_push d_L_law_402 zcs_iconst_0).trans ?_
    exact rn_rz d_L_law_403 rfl (by decide)
theorem b_L_law_404 {X : zX} {x3 : Int32} {h : zH} : zrn X 15 m_L_law 404 [some (.ref 0), some (.ref 1), some (.ref 123), some (.int x3)] [] h = (if zin (x3 + 1) X.1 = true then (zbI (zcf X m_X_nights [.ref 1, .int (X.2 (Int32.toNatClampNeg (x3 + 1)))] h) fun v2 h1 => (if zin (x3 + 1) X.1 = true then (zbI (zcf X m_M_nights [.ref 123, .int (X.2 (Int32.toNatClampNeg (x3 + 1)))] h1) fun v4 h3 => (if v2 = v4 then zrn X 15 m_L_law 1313 [some (.ref 0), some (.ref 1), some (.ref 123), some (.int x3)] [] h3 else (some (some (.int 0), h3)))) else none)) else none) := by
  refine (rn_ld d_L_law_404 rfl rfl rfl rfl).trans ?_
  refine (rn_ld d_L_law_405 rfl rfl rfl rfl).trans ?_
  refine (rn_ld d_L_law_406 rfl rfl rfl rfl).trans ?_
  refine (rn_push d_L_law_407 zcs_iconst_1).trans ?_
  refine (rn_a2 d_L_law_408 rfl).trans ?_
  refine (rn_sld d_L_law_409).trans (zif ?_ rfl)
  refine (rn_vI d_L_law_410 (zinv_v l_5_41 (by decide) (Nat.le_of_ble_eq_true rfl) rfl rfl zc_1 (Nat.le_of_ble_eq_true rfl)) (Nat.le_of_ble_eq_true rfl) (Or.inl rfl)).trans (zbI_congr fun v2 h1 => ?_)
  refine (rn_ld d_L_law_413 rfl rfl rfl rfl).trans ?_
  refine (rn_ld d_L_law_414 rfl rfl rfl rfl).trans ?_
  refine (rn_ld d_L_law_415 rfl rfl rfl rfl).trans ?_
  refine (rn_push d_L_law_416 zcs_iconst_1).trans ?_
  refine (rn_a2 d_L_law_417 rfl).trans ?_
  refine (rn_sld d_L_law_418).trans (zif ?_ rfl)
  refine (rn_vI d_L_law_419 (zinv_v l_5_44 (by decide) (Nat.le_of_ble_eq_true rfl) rfl rfl zc_123 (Nat.le_of_ble_eq_true rfl)) (Nat.le_of_ble_eq_true rfl) (Or.inl rfl)).trans (zbI_congr fun v4 h3 => ?_)
  refine (rn_ic_eq d_L_law_422 (t := 1313) (by decide)).trans (zif ?_ ?_)
  · rfl
  · refine (rn_push d_L_law_425 zcs_iconst_0).trans ?_
    exact rn_rz d_L_law_426 rfl (by decide)
theorem b_L_law_427 {X : zX} {x3 : Int32} {h : zH} : zrn X 15 m_L_law 427 [some (.ref 0), some (.ref 1), some (.ref 123), some (.int x3)] [] h = (zbI (zcf X m_X_back [.ref 1] h) fun v2 h1 => (zbI (zcf X m_M_back [.ref 123] h1) fun v4 h3 => (if v2 = v4 then zrn X 15 m_L_law 1313 [some (.ref 0), some (.ref 1), some (.ref 123), some (.int x3)] [] h3 else (some (some (.int 0), h3))))) := by
  refine (rn_ld d_L_law_427 rfl rfl rfl rfl).trans ?_
  refine (rn_vI d_L_law_428 (zinv_v l_5_45 (by decide) (Nat.le_of_ble_eq_true rfl) rfl rfl zc_1 (Nat.le_of_ble_eq_true rfl)) (Nat.le_of_ble_eq_true rfl) (Or.inl rfl)).trans (zbI_congr fun v2 h1 => ?_)
  refine (rn_ld d_L_law_431 rfl rfl rfl rfl).trans ?_
  refine (rn_vI d_L_law_432 (zinv_v l_5_48 (by decide) (Nat.le_of_ble_eq_true rfl) rfl rfl zc_123 (Nat.le_of_ble_eq_true rfl)) (Nat.le_of_ble_eq_true rfl) (Or.inl rfl)).trans (zbI_congr fun v4 h3 => ?_)
  refine (rn_ic_eq d_L_law_435 (t := 1313) (by decide)).trans (zif ?_ ?_)
  · rfl
  · refine (rn_push d_L_law_438 zcs_iconst_0).trans ?_
    exact rn_rz d_L_law_439 rfl (by decide)
theorem b_L_law_440 {X : zX} {x3 : Int32} {h : zH} : zrn X 15 m_L_law 440 [some (.ref 0), some (.ref 1), some (.ref 123), some (.int x3)] [] h = (if zin (x3 + 1) X.1 = true then (if zin (x3 + 2) X.1 = true then (if zin (x3 + 3) X.1 = true then (zbI (zcf X m_X_behind [.ref 1, .int (X.2 (Int32.toNatClampNeg (x3 + 1))), .int (X.2 (Int32.toNatClampNeg (x3 + 2))), .int (X.2 (Int32.toNatClampNeg (x3 + 3)))] h) fun v2 h1 => (if zin (x3 + 1) X.1 = true then (if zin (x3 + 2) X.1 = true then (if zin (x3 + 3) X.1 = true then (zbI (zcf X m_M_behind [.ref 123, .int (X.2 (Int32.toNatClampNeg (x3 + 1))), .int (X.2 (Int32.toNatClampNeg (x3 + 2))), .int (X.2 (Int32.toNatClampNeg (x3 + 3)))] h1) fun v4 h3 => (if v2 = v4 then zrn X 15 m_L_law 1313 [some (.ref 0), some (.ref 1), some (.ref 123), some (.int x3)] [] h3 else (some (some (.int 0), h3)))) else none) else none) else none)) else none) else none) else none) := by
  refine (rn_ld d_L_law_440 rfl rfl rfl rfl).trans ?_
  refine (rn_ld d_L_law_441 rfl rfl rfl rfl).trans ?_
  refine (rn_ld d_L_law_442 rfl rfl rfl rfl).trans ?_
  refine (rn_push d_L_law_443 zcs_iconst_1).trans ?_
  refine (rn_a2 d_L_law_444 rfl).trans ?_
  refine (rn_sld d_L_law_445).trans (zif ?_ rfl)
  refine (rn_ld d_L_law_446 rfl rfl rfl rfl).trans ?_
  refine (rn_ld d_L_law_447 rfl rfl rfl rfl).trans ?_
  refine (rn_push d_L_law_448 zcs_iconst_2).trans ?_
  refine (rn_a2 d_L_law_449 rfl).trans ?_
  refine (rn_sld d_L_law_450).trans (zif ?_ rfl)
  refine (rn_ld d_L_law_451 rfl rfl rfl rfl).trans ?_
  refine (rn_ld d_L_law_452 rfl rfl rfl rfl).trans ?_
  refine (rn_push d_L_law_453 zcs_iconst_3).trans ?_
  refine (rn_a2 d_L_law_454 rfl).trans ?_
  refine (rn_sld d_L_law_455).trans (zif ?_ rfl)
  refine (rn_vI d_L_law_456 (zinv_v l_5_49 (by decide) (Nat.le_of_ble_eq_true rfl) rfl rfl zc_1 (Nat.le_of_ble_eq_true rfl)) (Nat.le_of_ble_eq_true rfl) (Or.inl rfl)).trans (zbI_congr fun v2 h1 => ?_)
  refine (rn_ld d_L_law_459 rfl rfl rfl rfl).trans ?_
  refine (rn_ld d_L_law_460 rfl rfl rfl rfl).trans ?_
  refine (rn_ld d_L_law_461 rfl rfl rfl rfl).trans ?_
  refine (rn_push d_L_law_462 zcs_iconst_1).trans ?_
  refine (rn_a2 d_L_law_463 rfl).trans ?_
  refine (rn_sld d_L_law_464).trans (zif ?_ rfl)
  refine (rn_ld d_L_law_465 rfl rfl rfl rfl).trans ?_
  refine (rn_ld d_L_law_466 rfl rfl rfl rfl).trans ?_
  refine (rn_push d_L_law_467 zcs_iconst_2).trans ?_
  refine (rn_a2 d_L_law_468 rfl).trans ?_
  refine (rn_sld d_L_law_469).trans (zif ?_ rfl)
  refine (rn_ld d_L_law_470 rfl rfl rfl rfl).trans ?_
  refine (rn_ld d_L_law_471 rfl rfl rfl rfl).trans ?_
  refine (rn_push d_L_law_472 zcs_iconst_3).trans ?_
  refine (rn_a2 d_L_law_473 rfl).trans ?_
  refine (rn_sld d_L_law_474).trans (zif ?_ rfl)
  refine (rn_vI d_L_law_475 (zinv_v l_5_53 (by decide) (Nat.le_of_ble_eq_true rfl) rfl rfl zc_123 (Nat.le_of_ble_eq_true rfl)) (Nat.le_of_ble_eq_true rfl) (Or.inl rfl)).trans (zbI_congr fun v4 h3 => ?_)
  refine (rn_ic_eq d_L_law_478 (t := 1313) (by decide)).trans (zif ?_ ?_)
  · rfl
  · refine (rn_push d_L_law_481 zcs_iconst_0).trans ?_
    exact rn_rz d_L_law_482 rfl (by decide)
theorem b_L_law_483 {X : zX} {x3 : Int32} {h : zH} : zrn X 15 m_L_law 483 [some (.ref 0), some (.ref 1), some (.ref 123), some (.int x3)] [] h = (if zin (x3 + 1) X.1 = true then (zbI (zcf X m_X_allStarts [.ref 1, .int (X.2 (Int32.toNatClampNeg (x3 + 1)))] h) fun v2 h1 => (if zin (x3 + 1) X.1 = true then (zbI (zcf X m_M_allStarts [.ref 123, .int (X.2 (Int32.toNatClampNeg (x3 + 1)))] h1) fun v4 h3 => (if v2 = v4 then zrn X 15 m_L_law 1313 [some (.ref 0), some (.ref 1), some (.ref 123), some (.int x3)] [] h3 else (some (some (.int 0), h3)))) else none)) else none) := by
  refine (rn_ld d_L_law_483 rfl rfl rfl rfl).trans ?_
  refine (rn_ld d_L_law_484 rfl rfl rfl rfl).trans ?_
  refine (rn_ld d_L_law_485 rfl rfl rfl rfl).trans ?_
  refine (rn_push d_L_law_486 zcs_iconst_1).trans ?_
  refine (rn_a2 d_L_law_487 rfl).trans ?_
  refine (rn_sld d_L_law_488).trans (zif ?_ rfl)
  refine (rn_vI d_L_law_489 (zinv_v l_5_54 (by decide) (Nat.le_of_ble_eq_true rfl) rfl rfl zc_1 (Nat.le_of_ble_eq_true rfl)) (Nat.le_of_ble_eq_true rfl) (Or.inl rfl)).trans (zbI_congr fun v2 h1 => ?_)
  refine (rn_ld d_L_law_492 rfl rfl rfl rfl).trans ?_
  refine (rn_ld d_L_law_493 rfl rfl rfl rfl).trans ?_
  refine (rn_ld d_L_law_494 rfl rfl rfl rfl).trans ?_
  refine (rn_push d_L_law_495 zcs_iconst_1).trans ?_
  refine (rn_a2 d_L_law_496 rfl).trans ?_
  refine (rn_sld d_L_law_497).trans (zif ?_ rfl)
  refine (rn_vI d_L_law_498 (zinv_v l_5_57 (by decide) (Nat.le_of_ble_eq_true rfl) rfl rfl zc_123 (Nat.le_of_ble_eq_true rfl)) (Nat.le_of_ble_eq_true rfl) (Or.inl rfl)).trans (zbI_congr fun v4 h3 => ?_)
  refine (rn_ic_eq d_L_law_501 (t := 1313) (by decide)).trans (zif ?_ ?_)
  · rfl
  · refine (rn_push d_L_law_504 zcs_iconst_0).trans ?_
    exact rn_rz d_L_law_505 rfl (by decide)
theorem b_L_law_506 {X : zX} {x3 : Int32} {h : zH} : zrn X 15 m_L_law 506 [some (.ref 0), some (.ref 1), some (.ref 123), some (.int x3)] [] h = (if zin (x3 + 1) X.1 = true then (if zin (x3 + 2) X.1 = true then (zbI (zcf X m_X_first [.ref 1, .int (X.2 (Int32.toNatClampNeg (x3 + 1))), .int (X.2 (Int32.toNatClampNeg (x3 + 2)))] h) fun v2 h1 => (if zin (x3 + 1) X.1 = true then (if zin (x3 + 2) X.1 = true then (zbI (zcf X m_M_first [.ref 123, .int (X.2 (Int32.toNatClampNeg (x3 + 1))), .int (X.2 (Int32.toNatClampNeg (x3 + 2)))] h1) fun v4 h3 => (if v2 = v4 then zrn X 15 m_L_law 1313 [some (.ref 0), some (.ref 1), some (.ref 123), some (.int x3)] [] h3 else (some (some (.int 0), h3)))) else none) else none)) else none) else none) := by
  refine (rn_ld d_L_law_506 rfl rfl rfl rfl).trans ?_
  refine (rn_ld d_L_law_507 rfl rfl rfl rfl).trans ?_
  refine (rn_ld d_L_law_508 rfl rfl rfl rfl).trans ?_
  refine (rn_push d_L_law_509 zcs_iconst_1).trans ?_
  refine (rn_a2 d_L_law_510 rfl).trans ?_
  refine (rn_sld d_L_law_511).trans (zif ?_ rfl)
  refine (rn_ld d_L_law_512 rfl rfl rfl rfl).trans ?_
  refine (rn_ld d_L_law_513 rfl rfl rfl rfl).trans ?_
  refine (rn_push d_L_law_514 zcs_iconst_2).trans ?_
  refine (rn_a2 d_L_law_515 rfl).trans ?_
  refine (rn_sld d_L_law_516).trans (zif ?_ rfl)
  refine (rn_vI d_L_law_517 (zinv_v l_5_58 (by decide) (Nat.le_of_ble_eq_true rfl) rfl rfl zc_1 (Nat.le_of_ble_eq_true rfl)) (Nat.le_of_ble_eq_true rfl) (Or.inl rfl)).trans (zbI_congr fun v2 h1 => ?_)
  refine (rn_ld d_L_law_520 rfl rfl rfl rfl).trans ?_
  refine (rn_ld d_L_law_521 rfl rfl rfl rfl).trans ?_
  refine (rn_ld d_L_law_522 rfl rfl rfl rfl).trans ?_
  refine (rn_push d_L_law_523 zcs_iconst_1).trans ?_
  refine (rn_a2 d_L_law_524 rfl).trans ?_
  refine (rn_sld d_L_law_525).trans (zif ?_ rfl)
  refine (rn_ld d_L_law_526 rfl rfl rfl rfl).trans ?_
  refine (rn_ld d_L_law_527 rfl rfl rfl rfl).trans ?_
  refine (rn_push d_L_law_528 zcs_iconst_2).trans ?_
  refine (rn_a2 d_L_law_529 rfl).trans ?_
  refine (rn_sld d_L_law_530).trans (zif ?_ rfl)
  refine (rn_vI d_L_law_531 (zinv_v l_5_61 (by decide) (Nat.le_of_ble_eq_true rfl) rfl rfl zc_123 (Nat.le_of_ble_eq_true rfl)) (Nat.le_of_ble_eq_true rfl) (Or.inl rfl)).trans (zbI_congr fun v4 h3 => ?_)
  refine (rn_ic_eq d_L_law_534 (t := 1313) (by decide)).trans (zif ?_ ?_)
  · rfl
  · refine (rn_push d_L_law_537 zcs_iconst_0).trans ?_
    exact rn_rz d_L_law_538 rfl (by decide)
theorem b_L_law_539 {X : zX} {x3 : Int32} {h : zH} : zrn X 15 m_L_law 539 [some (.ref 0), some (.ref 1), some (.ref 123), some (.int x3)] [] h = (zbI (zcf X m_X_still [.ref 1] h) fun v2 h1 => (zbI (zcf X m_M_still [.ref 123] h1) fun v4 h3 => (if v2 = v4 then zrn X 15 m_L_law 1313 [some (.ref 0), some (.ref 1), some (.ref 123), some (.int x3)] [] h3 else (some (some (.int 0), h3))))) := by
  refine (rn_ld d_L_law_539 rfl rfl rfl rfl).trans ?_
  refine (rn_vI d_L_law_540 (zinv_v l_5_62 (by decide) (Nat.le_of_ble_eq_true rfl) rfl rfl zc_1 (Nat.le_of_ble_eq_true rfl)) (Nat.le_of_ble_eq_true rfl) (Or.inl rfl)).trans (zbI_congr fun v2 h1 => ?_)
  refine (rn_ld d_L_law_543 rfl rfl rfl rfl).trans ?_
  refine (rn_vI d_L_law_544 (zinv_v l_5_65 (by decide) (Nat.le_of_ble_eq_true rfl) rfl rfl zc_123 (Nat.le_of_ble_eq_true rfl)) (Nat.le_of_ble_eq_true rfl) (Or.inl rfl)).trans (zbI_congr fun v4 h3 => ?_)
  refine (rn_ic_eq d_L_law_547 (t := 1313) (by decide)).trans (zif ?_ ?_)
  · rfl
  · refine (rn_push d_L_law_550 zcs_iconst_0).trans ?_
    exact rn_rz d_L_law_551 rfl (by decide)
theorem b_L_law_552 {X : zX} {x3 : Int32} {h : zH} : zrn X 15 m_L_law 552 [some (.ref 0), some (.ref 1), some (.ref 123), some (.int x3)] [] h = (zbI (zcf X m_X_unseen [.ref 1] h) fun v2 h1 => (zbI (zcf X m_M_unseen [.ref 123] h1) fun v4 h3 => (if v2 = v4 then zrn X 15 m_L_law 1313 [some (.ref 0), some (.ref 1), some (.ref 123), some (.int x3)] [] h3 else (some (some (.int 0), h3))))) := by
  refine (rn_ld d_L_law_552 rfl rfl rfl rfl).trans ?_
  refine (rn_vI d_L_law_553 (zinv_v l_5_66 (by decide) (Nat.le_of_ble_eq_true rfl) rfl rfl zc_1 (Nat.le_of_ble_eq_true rfl)) (Nat.le_of_ble_eq_true rfl) (Or.inl rfl)).trans (zbI_congr fun v2 h1 => ?_)
  refine (rn_ld d_L_law_556 rfl rfl rfl rfl).trans ?_
  refine (rn_vI d_L_law_557 (zinv_v l_5_69 (by decide) (Nat.le_of_ble_eq_true rfl) rfl rfl zc_123 (Nat.le_of_ble_eq_true rfl)) (Nat.le_of_ble_eq_true rfl) (Or.inl rfl)).trans (zbI_congr fun v4 h3 => ?_)
  refine (rn_ic_eq d_L_law_560 (t := 1313) (by decide)).trans (zif ?_ ?_)
  · rfl
  · refine (rn_push d_L_law_563 zcs_iconst_0).trans ?_
    exact rn_rz d_L_law_564 rfl (by decide)
theorem b_L_law_565 {X : zX} {x3 : Int32} {h : zH} : zrn X 15 m_L_law 565 [some (.ref 0), some (.ref 1), some (.ref 123), some (.int x3)] [] h = (if zin (x3 + 1) X.1 = true then (if zin (x3 + 2) X.1 = true then (zbI (zcf X m_X_chain [.ref 1, .int (X.2 (Int32.toNatClampNeg (x3 + 1))), .int (X.2 (Int32.toNatClampNeg (x3 + 2)))] h) fun v2 h1 => (if zin (x3 + 1) X.1 = true then (if zin (x3 + 2) X.1 = true then (zbI (zcf X m_M_chain [.ref 123, .int (X.2 (Int32.toNatClampNeg (x3 + 1))), .int (X.2 (Int32.toNatClampNeg (x3 + 2)))] h1) fun v4 h3 => (if v2 = v4 then zrn X 15 m_L_law 1313 [some (.ref 0), some (.ref 1), some (.ref 123), some (.int x3)] [] h3 else (some (some (.int 0), h3)))) else none) else none)) else none) else none) := by
  refine (rn_ld d_L_law_565 rfl rfl rfl rfl).trans ?_
  refine (rn_ld d_L_law_566 rfl rfl rfl rfl).trans ?_
  refine (rn_ld d_L_law_567 rfl rfl rfl rfl).trans ?_
  refine (rn_push d_L_law_568 zcs_iconst_1).trans ?_
  refine (rn_a2 d_L_law_569 rfl).trans ?_
  refine (rn_sld d_L_law_570).trans (zif ?_ rfl)
  refine (rn_ld d_L_law_571 rfl rfl rfl rfl).trans ?_
  refine (rn_ld d_L_law_572 rfl rfl rfl rfl).trans ?_
  refine (rn_push d_L_law_573 zcs_iconst_2).trans ?_
  refine (rn_a2 d_L_law_574 rfl).trans ?_
  refine (rn_sld d_L_law_575).trans (zif ?_ rfl)
  refine (rn_vI d_L_law_576 (zinv_v l_5_70 (by decide) (Nat.le_of_ble_eq_true rfl) rfl rfl zc_1 (Nat.le_of_ble_eq_true rfl)) (Nat.le_of_ble_eq_true rfl) (Or.inl rfl)).trans (zbI_congr fun v2 h1 => ?_)
  refine (rn_ld d_L_law_579 rfl rfl rfl rfl).trans ?_
  refine (rn_ld d_L_law_580 rfl rfl rfl rfl).trans ?_
  refine (rn_ld d_L_law_581 rfl rfl rfl rfl).trans ?_
  refine (rn_push d_L_law_582 zcs_iconst_1).trans ?_
  refine (rn_a2 d_L_law_583 rfl).trans ?_
  refine (rn_sld d_L_law_584).trans (zif ?_ rfl)
  refine (rn_ld d_L_law_585 rfl rfl rfl rfl).trans ?_
  refine (rn_ld d_L_law_586 rfl rfl rfl rfl).trans ?_
  refine (rn_push d_L_law_587 zcs_iconst_2).trans ?_
  refine (rn_a2 d_L_law_588 rfl).trans ?_
  refine (rn_sld d_L_law_589).trans (zif ?_ rfl)
  refine (rn_vI d_L_law_590 (zinv_v l_5_73 (by decide) (Nat.le_of_ble_eq_true rfl) rfl rfl zc_123 (Nat.le_of_ble_eq_true rfl)) (Nat.le_of_ble_eq_true rfl) (Or.inl rfl)).trans (zbI_congr fun v4 h3 => ?_)
  refine (rn_ic_eq d_L_law_593 (t := 1313) (by decide)).trans (zif ?_ ?_)
  · rfl
  · refine (rn_push d_L_law_596 zcs_iconst_0).trans ?_
    exact rn_rz d_L_law_597 rfl (by decide)
theorem b_L_law_598 {X : zX} {x3 : Int32} {h : zH} : zrn X 15 m_L_law 598 [some (.ref 0), some (.ref 1), some (.ref 123), some (.int x3)] [] h = (zbI (zcf X m_X_deepest [.ref 1] h) fun v2 h1 => (zbI (zcf X m_M_deepest [.ref 123] h1) fun v4 h3 => (if v2 = v4 then zrn X 15 m_L_law 1313 [some (.ref 0), some (.ref 1), some (.ref 123), some (.int x3)] [] h3 else (some (some (.int 0), h3))))) := by
  refine (rn_ld d_L_law_598 rfl rfl rfl rfl).trans ?_
  refine (rn_vI d_L_law_599 (zinv_v l_5_74 (by decide) (Nat.le_of_ble_eq_true rfl) rfl rfl zc_1 (Nat.le_of_ble_eq_true rfl)) (Nat.le_of_ble_eq_true rfl) (Or.inl rfl)).trans (zbI_congr fun v2 h1 => ?_)
  refine (rn_ld d_L_law_602 rfl rfl rfl rfl).trans ?_
  refine (rn_vI d_L_law_603 (zinv_v l_5_77 (by decide) (Nat.le_of_ble_eq_true rfl) rfl rfl zc_123 (Nat.le_of_ble_eq_true rfl)) (Nat.le_of_ble_eq_true rfl) (Or.inl rfl)).trans (zbI_congr fun v4 h3 => ?_)
  refine (rn_ic_eq d_L_law_606 (t := 1313) (by decide)).trans (zif ?_ ?_)
  · rfl
  · refine (rn_push d_L_law_609 zcs_iconst_0).trans ?_
    exact rn_rz d_L_law_610 rfl (by decide)
theorem b_L_law_611 {X : zX} {x3 : Int32} {h : zH} : zrn X 15 m_L_law 611 [some (.ref 0), some (.ref 1), some (.ref 123), some (.int x3)] [] h = (if zin (x3 + 1) X.1 = true then (if zin (x3 + 2) X.1 = true then (zbI (zcf X m_X_knows [.ref 1, .int (X.2 (Int32.toNatClampNeg (x3 + 1))), .int (X.2 (Int32.toNatClampNeg (x3 + 2)))] h) fun v2 h1 => (if zin (x3 + 1) X.1 = true then (if zin (x3 + 2) X.1 = true then (zbI (zcf X m_M_knows [.ref 123, .int (X.2 (Int32.toNatClampNeg (x3 + 1))), .int (X.2 (Int32.toNatClampNeg (x3 + 2)))] h1) fun v4 h3 => (if v2 = v4 then zrn X 15 m_L_law 1313 [some (.ref 0), some (.ref 1), some (.ref 123), some (.int x3)] [] h3 else (some (some (.int 0), h3)))) else none) else none)) else none) else none) := by
  refine (rn_ld d_L_law_611 rfl rfl rfl rfl).trans ?_
  refine (rn_ld d_L_law_612 rfl rfl rfl rfl).trans ?_
  refine (rn_ld d_L_law_613 rfl rfl rfl rfl).trans ?_
  refine (rn_push d_L_law_614 zcs_iconst_1).trans ?_
  refine (rn_a2 d_L_law_615 rfl).trans ?_
  refine (rn_sld d_L_law_616).trans (zif ?_ rfl)
  refine (rn_ld d_L_law_617 rfl rfl rfl rfl).trans ?_
  refine (rn_ld d_L_law_618 rfl rfl rfl rfl).trans ?_
  refine (rn_push d_L_law_619 zcs_iconst_2).trans ?_
  refine (rn_a2 d_L_law_620 rfl).trans ?_
  refine (rn_sld d_L_law_621).trans (zif ?_ rfl)
  refine (rn_vI d_L_law_622 (zinv_v l_5_78 (by decide) (Nat.le_of_ble_eq_true rfl) rfl rfl zc_1 (Nat.le_of_ble_eq_true rfl)) (Nat.le_of_ble_eq_true rfl) (Or.inl rfl)).trans (zbI_congr fun v2 h1 => ?_)
  refine (rn_ld d_L_law_625 rfl rfl rfl rfl).trans ?_
  refine (rn_ld d_L_law_626 rfl rfl rfl rfl).trans ?_
  refine (rn_ld d_L_law_627 rfl rfl rfl rfl).trans ?_
  refine (rn_push d_L_law_628 zcs_iconst_1).trans ?_
  refine (rn_a2 d_L_law_629 rfl).trans ?_
  refine (rn_sld d_L_law_630).trans (zif ?_ rfl)
  refine (rn_ld d_L_law_631 rfl rfl rfl rfl).trans ?_
  refine (rn_ld d_L_law_632 rfl rfl rfl rfl).trans ?_
  refine (rn_push d_L_law_633 zcs_iconst_2).trans ?_
  refine (rn_a2 d_L_law_634 rfl).trans ?_
  refine (rn_sld d_L_law_635).trans (zif ?_ rfl)
  refine (rn_vI d_L_law_636 (zinv_v l_5_81 (by decide) (Nat.le_of_ble_eq_true rfl) rfl rfl zc_123 (Nat.le_of_ble_eq_true rfl)) (Nat.le_of_ble_eq_true rfl) (Or.inl rfl)).trans (zbI_congr fun v4 h3 => ?_)
  refine (rn_ic_eq d_L_law_639 (t := 1313) (by decide)).trans (zif ?_ ?_)
  · rfl
  · refine (rn_push d_L_law_642 zcs_iconst_0).trans ?_
    exact rn_rz d_L_law_643 rfl (by decide)
theorem b_L_law_644 {X : zX} {x3 : Int32} {h : zH} : zrn X 15 m_L_law 644 [some (.ref 0), some (.ref 1), some (.ref 123), some (.int x3)] [] h = (if zin (x3 + 1) X.1 = true then (if zin (x3 + 2) X.1 = true then (zbI (zcf X m_X_safe [.ref 1, .int (X.2 (Int32.toNatClampNeg (x3 + 1))), .int (X.2 (Int32.toNatClampNeg (x3 + 2)))] h) fun v2 h1 => (if zin (x3 + 1) X.1 = true then (if zin (x3 + 2) X.1 = true then (zbI (zcf X m_M_safe [.ref 123, .int (X.2 (Int32.toNatClampNeg (x3 + 1))), .int (X.2 (Int32.toNatClampNeg (x3 + 2)))] h1) fun v4 h3 => (if v2 = v4 then zrn X 15 m_L_law 1313 [some (.ref 0), some (.ref 1), some (.ref 123), some (.int x3)] [] h3 else (some (some (.int 0), h3)))) else none) else none)) else none) else none) := by
  refine (rn_ld d_L_law_644 rfl rfl rfl rfl).trans ?_
  refine (rn_ld d_L_law_645 rfl rfl rfl rfl).trans ?_
  refine (rn_ld d_L_law_646 rfl rfl rfl rfl).trans ?_
  refine (rn_push d_L_law_647 zcs_iconst_1).trans ?_
  refine (rn_a2 d_L_law_648 rfl).trans ?_
  refine (rn_sld d_L_law_649).trans (zif ?_ rfl)
  refine (rn_ld d_L_law_650 rfl rfl rfl rfl).trans ?_
  refine (rn_ld d_L_law_651 rfl rfl rfl rfl).trans ?_
  refine (rn_push d_L_law_652 zcs_iconst_2).trans ?_
  refine (rn_a2 d_L_law_653 rfl).trans ?_
  refine (rn_sld d_L_law_654).trans (zif ?_ rfl)
  refine (rn_vI d_L_law_655 (zinv_v l_5_82 (by decide) (Nat.le_of_ble_eq_true rfl) rfl rfl zc_1 (Nat.le_of_ble_eq_true rfl)) (Nat.le_of_ble_eq_true rfl) (Or.inl rfl)).trans (zbI_congr fun v2 h1 => ?_)
  refine (rn_ld d_L_law_658 rfl rfl rfl rfl).trans ?_
  refine (rn_ld d_L_law_659 rfl rfl rfl rfl).trans ?_
  refine (rn_ld d_L_law_660 rfl rfl rfl rfl).trans ?_
  refine (rn_push d_L_law_661 zcs_iconst_1).trans ?_
  refine (rn_a2 d_L_law_662 rfl).trans ?_
  refine (rn_sld d_L_law_663).trans (zif ?_ rfl)
  refine (rn_ld d_L_law_664 rfl rfl rfl rfl).trans ?_
  refine (rn_ld d_L_law_665 rfl rfl rfl rfl).trans ?_
  refine (rn_push d_L_law_666 zcs_iconst_2).trans ?_
  refine (rn_a2 d_L_law_667 rfl).trans ?_
  refine (rn_sld d_L_law_668).trans (zif ?_ rfl)
  refine (rn_vI d_L_law_669 (zinv_v l_5_85 (by decide) (Nat.le_of_ble_eq_true rfl) rfl rfl zc_123 (Nat.le_of_ble_eq_true rfl)) (Nat.le_of_ble_eq_true rfl) (Or.inl rfl)).trans (zbI_congr fun v4 h3 => ?_)
  refine (rn_ic_eq d_L_law_672 (t := 1313) (by decide)).trans (zif ?_ ?_)
  · rfl
  · refine (rn_push d_L_law_675 zcs_iconst_0).trans ?_
    exact rn_rz d_L_law_676 rfl (by decide)
theorem b_L_law_677 {X : zX} {x3 : Int32} {h : zH} : zrn X 15 m_L_law 677 [some (.ref 0), some (.ref 1), some (.ref 123), some (.int x3)] [] h = (if zin (x3 + 1) X.1 = true then (if zin (x3 + 2) X.1 = true then (zbI (zcf X m_X_alone [.ref 1, .int (X.2 (Int32.toNatClampNeg (x3 + 1))), .int (X.2 (Int32.toNatClampNeg (x3 + 2)))] h) fun v2 h1 => (if zin (x3 + 1) X.1 = true then (if zin (x3 + 2) X.1 = true then (zbI (zcf X m_M_alone [.ref 123, .int (X.2 (Int32.toNatClampNeg (x3 + 1))), .int (X.2 (Int32.toNatClampNeg (x3 + 2)))] h1) fun v4 h3 => (if v2 = v4 then zrn X 15 m_L_law 1313 [some (.ref 0), some (.ref 1), some (.ref 123), some (.int x3)] [] h3 else (some (some (.int 0), h3)))) else none) else none)) else none) else none) := by
  refine (rn_ld d_L_law_677 rfl rfl rfl rfl).trans ?_
  refine (rn_ld d_L_law_678 rfl rfl rfl rfl).trans ?_
  refine (rn_ld d_L_law_679 rfl rfl rfl rfl).trans ?_
  refine (rn_push d_L_law_680 zcs_iconst_1).trans ?_
  refine (rn_a2 d_L_law_681 rfl).trans ?_
  refine (rn_sld d_L_law_682).trans (zif ?_ rfl)
  refine (rn_ld d_L_law_683 rfl rfl rfl rfl).trans ?_
  refine (rn_ld d_L_law_684 rfl rfl rfl rfl).trans ?_
  refine (rn_push d_L_law_685 zcs_iconst_2).trans ?_
  refine (rn_a2 d_L_law_686 rfl).trans ?_
  refine (rn_sld d_L_law_687).trans (zif ?_ rfl)
  refine (rn_vI d_L_law_688 (zinv_v l_5_86 (by decide) (Nat.le_of_ble_eq_true rfl) rfl rfl zc_1 (Nat.le_of_ble_eq_true rfl)) (Nat.le_of_ble_eq_true rfl) (Or.inl rfl)).trans (zbI_congr fun v2 h1 => ?_)
  refine (rn_ld d_L_law_691 rfl rfl rfl rfl).trans ?_
  refine (rn_ld d_L_law_692 rfl rfl rfl rfl).trans ?_
  refine (rn_ld d_L_law_693 rfl rfl rfl rfl).trans ?_
  refine (rn_push d_L_law_694 zcs_iconst_1).trans ?_
  refine (rn_a2 d_L_law_695 rfl).trans ?_
  refine (rn_sld d_L_law_696).trans (zif ?_ rfl)
  refine (rn_ld d_L_law_697 rfl rfl rfl rfl).trans ?_
  refine (rn_ld d_L_law_698 rfl rfl rfl rfl).trans ?_
  refine (rn_push d_L_law_699 zcs_iconst_2).trans ?_
  refine (rn_a2 d_L_law_700 rfl).trans ?_
  refine (rn_sld d_L_law_701).trans (zif ?_ rfl)
  refine (rn_vI d_L_law_702 (zinv_v l_5_89 (by decide) (Nat.le_of_ble_eq_true rfl) rfl rfl zc_123 (Nat.le_of_ble_eq_true rfl)) (Nat.le_of_ble_eq_true rfl) (Or.inl rfl)).trans (zbI_congr fun v4 h3 => ?_)
  refine (rn_ic_eq d_L_law_705 (t := 1313) (by decide)).trans (zif ?_ ?_)
  · rfl
  · refine (rn_push d_L_law_708 zcs_iconst_0).trans ?_
    exact rn_rz d_L_law_709 rfl (by decide)
theorem b_L_law_710 {X : zX} {x3 : Int32} {h : zH} : zrn X 15 m_L_law 710 [some (.ref 0), some (.ref 1), some (.ref 123), some (.int x3)] [] h = (zbI (zcf X m_X_turnAll [.ref 1] h) fun v2 h1 => (zbI (zcf X m_M_turnAll [.ref 123] h1) fun v4 h3 => (if v2 = v4 then zrn X 15 m_L_law 1313 [some (.ref 0), some (.ref 1), some (.ref 123), some (.int x3)] [] h3 else (some (some (.int 0), h3))))) := by
  refine (rn_ld d_L_law_710 rfl rfl rfl rfl).trans ?_
  refine (rn_vI d_L_law_711 (zinv_v l_5_90 (by decide) (Nat.le_of_ble_eq_true rfl) rfl rfl zc_1 (Nat.le_of_ble_eq_true rfl)) (Nat.le_of_ble_eq_true rfl) (Or.inl rfl)).trans (zbI_congr fun v2 h1 => ?_)
  refine (rn_ld d_L_law_714 rfl rfl rfl rfl).trans ?_
  refine (rn_vI d_L_law_715 (zinv_v l_5_93 (by decide) (Nat.le_of_ble_eq_true rfl) rfl rfl zc_123 (Nat.le_of_ble_eq_true rfl)) (Nat.le_of_ble_eq_true rfl) (Or.inl rfl)).trans (zbI_congr fun v4 h3 => ?_)
  refine (rn_ic_eq d_L_law_718 (t := 1313) (by decide)).trans (zif ?_ ?_)
  · rfl
  · refine (rn_push d_L_law_721 zcs_iconst_0).trans ?_
    exact rn_rz d_L_law_722 rfl (by decide)
theorem b_L_law_723 {X : zX} {x3 : Int32} {h : zH} : zrn X 15 m_L_law 723 [some (.ref 0), some (.ref 1), some (.ref 123), some (.int x3)] [] h = (if zin (x3 + 1) X.1 = true then (zbI (zcf X m_X_post [.ref 1, .int (X.2 (Int32.toNatClampNeg (x3 + 1)))] h) fun v2 h1 => (if zin (x3 + 1) X.1 = true then (zbI (zcf X m_M_post [.ref 123, .int (X.2 (Int32.toNatClampNeg (x3 + 1)))] h1) fun v4 h3 => (if v2 = v4 then zrn X 15 m_L_law 1313 [some (.ref 0), some (.ref 1), some (.ref 123), some (.int x3)] [] h3 else (some (some (.int 0), h3)))) else none)) else none) := by
  refine (rn_ld d_L_law_723 rfl rfl rfl rfl).trans ?_
  refine (rn_ld d_L_law_724 rfl rfl rfl rfl).trans ?_
  refine (rn_ld d_L_law_725 rfl rfl rfl rfl).trans ?_
  refine (rn_push d_L_law_726 zcs_iconst_1).trans ?_
  refine (rn_a2 d_L_law_727 rfl).trans ?_
  refine (rn_sld d_L_law_728).trans (zif ?_ rfl)
  refine (rn_vI d_L_law_729 (zinv_v l_5_94 (by decide) (Nat.le_of_ble_eq_true rfl) rfl rfl zc_1 (Nat.le_of_ble_eq_true rfl)) (Nat.le_of_ble_eq_true rfl) (Or.inl rfl)).trans (zbI_congr fun v2 h1 => ?_)
  refine (rn_ld d_L_law_732 rfl rfl rfl rfl).trans ?_
  refine (rn_ld d_L_law_733 rfl rfl rfl rfl).trans ?_
  refine (rn_ld d_L_law_734 rfl rfl rfl rfl).trans ?_
  refine (rn_push d_L_law_735 zcs_iconst_1).trans ?_
  refine (rn_a2 d_L_law_736 rfl).trans ?_
  refine (rn_sld d_L_law_737).trans (zif ?_ rfl)
  refine (rn_vI d_L_law_738 (zinv_v l_5_97 (by decide) (Nat.le_of_ble_eq_true rfl) rfl rfl zc_123 (Nat.le_of_ble_eq_true rfl)) (Nat.le_of_ble_eq_true rfl) (Or.inl rfl)).trans (zbI_congr fun v4 h3 => ?_)
  refine (rn_ic_eq d_L_law_741 (t := 1313) (by decide)).trans (zif ?_ ?_)
  · rfl
  · refine (rn_push d_L_law_744 zcs_iconst_0).trans ?_
    exact rn_rz d_L_law_745 rfl (by decide)
theorem b_L_law_746 {X : zX} {x3 : Int32} {h : zH} : zrn X 15 m_L_law 746 [some (.ref 0), some (.ref 1), some (.ref 123), some (.int x3)] [] h = (if zin (x3 + 1) X.1 = true then (if zin (x3 + 2) X.1 = true then (zbI (zcf X m_X_which [.ref 1, .int (X.2 (Int32.toNatClampNeg (x3 + 1))), .int (X.2 (Int32.toNatClampNeg (x3 + 2)))] h) fun v2 h1 => (if zin (x3 + 1) X.1 = true then (if zin (x3 + 2) X.1 = true then (zbI (zcf X m_M_which [.ref 123, .int (X.2 (Int32.toNatClampNeg (x3 + 1))), .int (X.2 (Int32.toNatClampNeg (x3 + 2)))] h1) fun v4 h3 => (if v2 = v4 then zrn X 15 m_L_law 1313 [some (.ref 0), some (.ref 1), some (.ref 123), some (.int x3)] [] h3 else (some (some (.int 0), h3)))) else none) else none)) else none) else none) := by
  refine (rn_ld d_L_law_746 rfl rfl rfl rfl).trans ?_
  refine (rn_ld d_L_law_747 rfl rfl rfl rfl).trans ?_
  refine (rn_ld d_L_law_748 rfl rfl rfl rfl).trans ?_
  refine (rn_push d_L_law_749 zcs_iconst_1).trans ?_
  refine (rn_a2 d_L_law_750 rfl).trans ?_
  refine (rn_sld d_L_law_751).trans (zif ?_ rfl)
  refine (rn_ld d_L_law_752 rfl rfl rfl rfl).trans ?_
  refine (rn_ld d_L_law_753 rfl rfl rfl rfl).trans ?_
  refine (rn_push d_L_law_754 zcs_iconst_2).trans ?_
  refine (rn_a2 d_L_law_755 rfl).trans ?_
  refine (rn_sld d_L_law_756).trans (zif ?_ rfl)
  refine (rn_vI d_L_law_757 (zinv_v l_5_98 (by decide) (Nat.le_of_ble_eq_true rfl) rfl rfl zc_1 (Nat.le_of_ble_eq_true rfl)) (Nat.le_of_ble_eq_true rfl) (Or.inl rfl)).trans (zbI_congr fun v2 h1 => ?_)
  refine (rn_ld d_L_law_760 rfl rfl rfl rfl).trans ?_
  refine (rn_ld d_L_law_761 rfl rfl rfl rfl).trans ?_
  refine (rn_ld d_L_law_762 rfl rfl rfl rfl).trans ?_
  refine (rn_push d_L_law_763 zcs_iconst_1).trans ?_
  refine (rn_a2 d_L_law_764 rfl).trans ?_
  refine (rn_sld d_L_law_765).trans (zif ?_ rfl)
  refine (rn_ld d_L_law_766 rfl rfl rfl rfl).trans ?_
  refine (rn_ld d_L_law_767 rfl rfl rfl rfl).trans ?_
  refine (rn_push d_L_law_768 zcs_iconst_2).trans ?_
  refine (rn_a2 d_L_law_769 rfl).trans ?_
  refine (rn_sld d_L_law_770).trans (zif ?_ rfl)
  refine (rn_vI d_L_law_771 (zinv_v l_5_101 (by decide) (Nat.le_of_ble_eq_true rfl) rfl rfl zc_123 (Nat.le_of_ble_eq_true rfl)) (Nat.le_of_ble_eq_true rfl) (Or.inl rfl)).trans (zbI_congr fun v4 h3 => ?_)
  refine (rn_ic_eq d_L_law_774 (t := 1313) (by decide)).trans (zif ?_ ?_)
  · rfl
  · refine (rn_push d_L_law_777 zcs_iconst_0).trans ?_
    exact rn_rz d_L_law_778 rfl (by decide)
theorem b_L_law_779 {X : zX} {x3 : Int32} {h : zH} : zrn X 15 m_L_law 779 [some (.ref 0), some (.ref 1), some (.ref 123), some (.int x3)] [] h = (if zin (x3 + 1) X.1 = true then (zbI (zcf X m_X_bestStep [.ref 1, .int (X.2 (Int32.toNatClampNeg (x3 + 1)))] h) fun v2 h1 => (if zin (x3 + 1) X.1 = true then (zbI (zcf X m_M_bestStep [.ref 123, .int (X.2 (Int32.toNatClampNeg (x3 + 1)))] h1) fun v4 h3 => (if v2 = v4 then zrn X 15 m_L_law 1313 [some (.ref 0), some (.ref 1), some (.ref 123), some (.int x3)] [] h3 else (some (some (.int 0), h3)))) else none)) else none) := by
  refine (rn_ld d_L_law_779 rfl rfl rfl rfl).trans ?_
  refine (rn_ld d_L_law_780 rfl rfl rfl rfl).trans ?_
  refine (rn_ld d_L_law_781 rfl rfl rfl rfl).trans ?_
  refine (rn_push d_L_law_782 zcs_iconst_1).trans ?_
  refine (rn_a2 d_L_law_783 rfl).trans ?_
  refine (rn_sld d_L_law_784).trans (zif ?_ rfl)
  refine (rn_vI d_L_law_785 (zinv_v l_5_102 (by decide) (Nat.le_of_ble_eq_true rfl) rfl rfl zc_1 (Nat.le_of_ble_eq_true rfl)) (Nat.le_of_ble_eq_true rfl) (Or.inl rfl)).trans (zbI_congr fun v2 h1 => ?_)
  refine (rn_ld d_L_law_788 rfl rfl rfl rfl).trans ?_
  refine (rn_ld d_L_law_789 rfl rfl rfl rfl).trans ?_
  refine (rn_ld d_L_law_790 rfl rfl rfl rfl).trans ?_
  refine (rn_push d_L_law_791 zcs_iconst_1).trans ?_
  refine (rn_a2 d_L_law_792 rfl).trans ?_
  refine (rn_sld d_L_law_793).trans (zif ?_ rfl)
  refine (rn_vI d_L_law_794 (zinv_v l_5_105 (by decide) (Nat.le_of_ble_eq_true rfl) rfl rfl zc_123 (Nat.le_of_ble_eq_true rfl)) (Nat.le_of_ble_eq_true rfl) (Or.inl rfl)).trans (zbI_congr fun v4 h3 => ?_)
  refine (rn_ic_eq d_L_law_797 (t := 1313) (by decide)).trans (zif ?_ ?_)
  · rfl
  · refine (rn_push d_L_law_800 zcs_iconst_0).trans ?_
    exact rn_rz d_L_law_801 rfl (by decide)
theorem b_L_law_802 {X : zX} {x3 : Int32} {h : zH} : zrn X 15 m_L_law 802 [some (.ref 0), some (.ref 1), some (.ref 123), some (.int x3)] [] h = (if zin (x3 + 1) X.1 = true then (if zin (x3 + 2) X.1 = true then (zbI (zcf X m_X_two [.ref 1, .int (X.2 (Int32.toNatClampNeg (x3 + 1))), .int (X.2 (Int32.toNatClampNeg (x3 + 2)))] h) fun v2 h1 => (if zin (x3 + 1) X.1 = true then (if zin (x3 + 2) X.1 = true then (zbI (zcf X m_M_two [.ref 123, .int (X.2 (Int32.toNatClampNeg (x3 + 1))), .int (X.2 (Int32.toNatClampNeg (x3 + 2)))] h1) fun v4 h3 => (if v2 = v4 then zrn X 15 m_L_law 1313 [some (.ref 0), some (.ref 1), some (.ref 123), some (.int x3)] [] h3 else (some (some (.int 0), h3)))) else none) else none)) else none) else none) := by
  refine (rn_ld d_L_law_802 rfl rfl rfl rfl).trans ?_
  refine (rn_ld d_L_law_803 rfl rfl rfl rfl).trans ?_
  refine (rn_ld d_L_law_804 rfl rfl rfl rfl).trans ?_
  refine (rn_push d_L_law_805 zcs_iconst_1).trans ?_
  refine (rn_a2 d_L_law_806 rfl).trans ?_
  refine (rn_sld d_L_law_807).trans (zif ?_ rfl)
  refine (rn_ld d_L_law_808 rfl rfl rfl rfl).trans ?_
  refine (rn_ld d_L_law_809 rfl rfl rfl rfl).trans ?_
  refine (rn_push d_L_law_810 zcs_iconst_2).trans ?_
  refine (rn_a2 d_L_law_811 rfl).trans ?_
  refine (rn_sld d_L_law_812).trans (zif ?_ rfl)
  refine (rn_vI d_L_law_813 (zinv_v l_5_106 (by decide) (Nat.le_of_ble_eq_true rfl) rfl rfl zc_1 (Nat.le_of_ble_eq_true rfl)) (Nat.le_of_ble_eq_true rfl) (Or.inl rfl)).trans (zbI_congr fun v2 h1 => ?_)
  refine (rn_ld d_L_law_816 rfl rfl rfl rfl).trans ?_
  refine (rn_ld d_L_law_817 rfl rfl rfl rfl).trans ?_
  refine (rn_ld d_L_law_818 rfl rfl rfl rfl).trans ?_
  refine (rn_push d_L_law_819 zcs_iconst_1).trans ?_
  refine (rn_a2 d_L_law_820 rfl).trans ?_
  refine (rn_sld d_L_law_821).trans (zif ?_ rfl)
  refine (rn_ld d_L_law_822 rfl rfl rfl rfl).trans ?_
  refine (rn_ld d_L_law_823 rfl rfl rfl rfl).trans ?_
  refine (rn_push d_L_law_824 zcs_iconst_2).trans ?_
  refine (rn_a2 d_L_law_825 rfl).trans ?_
  refine (rn_sld d_L_law_826).trans (zif ?_ rfl)
  refine (rn_vI d_L_law_827 (zinv_v l_5_109 (by decide) (Nat.le_of_ble_eq_true rfl) rfl rfl zc_123 (Nat.le_of_ble_eq_true rfl)) (Nat.le_of_ble_eq_true rfl) (Or.inl rfl)).trans (zbI_congr fun v4 h3 => ?_)
  refine (rn_ic_eq d_L_law_830 (t := 1313) (by decide)).trans (zif ?_ ?_)
  · rfl
  · refine (rn_push d_L_law_833 zcs_iconst_0).trans ?_
    exact rn_rz d_L_law_834 rfl (by decide)
theorem b_L_law_835 {X : zX} {x3 : Int32} {h : zH} : zrn X 15 m_L_law 835 [some (.ref 0), some (.ref 1), some (.ref 123), some (.int x3)] [] h = (if zin (x3 + 1) X.1 = true then (if zin (x3 + 2) X.1 = true then (if zin (x3 + 3) X.1 = true then (if zin (x3 + 4) X.1 = true then (if zin (x3 + 5) X.1 = true then (zbL (zcf X m_X_slept [.ref 1, .int (X.2 (Int32.toNatClampNeg (x3 + 1))), .int (X.2 (Int32.toNatClampNeg (x3 + 2))), .int (X.2 (Int32.toNatClampNeg (x3 + 3))), .int (X.2 (Int32.toNatClampNeg (x3 + 4))), .int (X.2 (Int32.toNatClampNeg (x3 + 5)))] h) fun v2 h1 => (if zin (x3 + 1) X.1 = true then (if zin (x3 + 2) X.1 = true then (if zin (x3 + 3) X.1 = true then (if zin (x3 + 4) X.1 = true then (if zin (x3 + 5) X.1 = true then (zbL (zcf X m_M_slept [.ref 123, .int (X.2 (Int32.toNatClampNeg (x3 + 1))), .int (X.2 (Int32.toNatClampNeg (x3 + 2))), .int (X.2 (Int32.toNatClampNeg (x3 + 3))), .int (X.2 (Int32.toNatClampNeg (x3 + 4))), .int (X.2 (Int32.toNatClampNeg (x3 + 5)))] h1) fun v4 h3 => (if (lg_cmp v2 v4) = 0 then zrn X 15 m_L_law 1313 [some (.ref 0), some (.ref 1), some (.ref 123), some (.int x3)] [] h3 else (some (some (.int 0), h3)))) else none) else none) else none) else none) else none)) else none) else none) else none) else none) else none) := by
  refine (rn_ld d_L_law_835 rfl rfl rfl rfl).trans ?_
  refine (rn_ld d_L_law_836 rfl rfl rfl rfl).trans ?_
  refine (rn_ld d_L_law_837 rfl rfl rfl rfl).trans ?_
  refine (rn_push d_L_law_838 zcs_iconst_1).trans ?_
  refine (rn_a2 d_L_law_839 rfl).trans ?_
  refine (rn_sld d_L_law_840).trans (zif ?_ rfl)
  refine (rn_ld d_L_law_841 rfl rfl rfl rfl).trans ?_
  refine (rn_ld d_L_law_842 rfl rfl rfl rfl).trans ?_
  refine (rn_push d_L_law_843 zcs_iconst_2).trans ?_
  refine (rn_a2 d_L_law_844 rfl).trans ?_
  refine (rn_sld d_L_law_845).trans (zif ?_ rfl)
  refine (rn_ld d_L_law_846 rfl rfl rfl rfl).trans ?_
  refine (rn_ld d_L_law_847 rfl rfl rfl rfl).trans ?_
  refine (rn_push d_L_law_848 zcs_iconst_3).trans ?_
  refine (rn_a2 d_L_law_849 rfl).trans ?_
  refine (rn_sld d_L_law_850).trans (zif ?_ rfl)
  refine (rn_ld d_L_law_851 rfl rfl rfl rfl).trans ?_
  refine (rn_ld d_L_law_852 rfl rfl rfl rfl).trans ?_
  refine (rn_push d_L_law_853 zcs_iconst_4).trans ?_
  refine (rn_a2 d_L_law_854 rfl).trans ?_
  refine (rn_sld d_L_law_855).trans (zif ?_ rfl)
  refine (rn_ld d_L_law_856 rfl rfl rfl rfl).trans ?_
  refine (rn_ld d_L_law_857 rfl rfl rfl rfl).trans ?_
  refine (rn_push d_L_law_858 zcs_iconst_5).trans ?_
  refine (rn_a2 d_L_law_859 rfl).trans ?_
  refine (rn_sld d_L_law_860).trans (zif ?_ rfl)
  refine (rn_vL d_L_law_861 (zinv_v l_5_110 (by decide) (Nat.le_of_ble_eq_true rfl) rfl rfl zc_1 (Nat.le_of_ble_eq_true rfl)) (Nat.le_of_ble_eq_true rfl) rfl).trans (zbL_congr fun v2 h1 => ?_)
  refine (rn_ld d_L_law_864 rfl rfl rfl rfl).trans ?_
  refine (rn_ld d_L_law_865 rfl rfl rfl rfl).trans ?_
  refine (rn_ld d_L_law_866 rfl rfl rfl rfl).trans ?_
  refine (rn_push d_L_law_867 zcs_iconst_1).trans ?_
  refine (rn_a2 d_L_law_868 rfl).trans ?_
  refine (rn_sld d_L_law_869).trans (zif ?_ rfl)
  refine (rn_ld d_L_law_870 rfl rfl rfl rfl).trans ?_
  refine (rn_ld d_L_law_871 rfl rfl rfl rfl).trans ?_
  refine (rn_push d_L_law_872 zcs_iconst_2).trans ?_
  refine (rn_a2 d_L_law_873 rfl).trans ?_
  refine (rn_sld d_L_law_874).trans (zif ?_ rfl)
  refine (rn_ld d_L_law_875 rfl rfl rfl rfl).trans ?_
  refine (rn_ld d_L_law_876 rfl rfl rfl rfl).trans ?_
  refine (rn_push d_L_law_877 zcs_iconst_3).trans ?_
  refine (rn_a2 d_L_law_878 rfl).trans ?_
  refine (rn_sld d_L_law_879).trans (zif ?_ rfl)
  refine (rn_ld d_L_law_880 rfl rfl rfl rfl).trans ?_
  refine (rn_ld d_L_law_881 rfl rfl rfl rfl).trans ?_
  refine (rn_push d_L_law_882 zcs_iconst_4).trans ?_
  refine (rn_a2 d_L_law_883 rfl).trans ?_
  refine (rn_sld d_L_law_884).trans (zif ?_ rfl)
  refine (rn_ld d_L_law_885 rfl rfl rfl rfl).trans ?_
  refine (rn_ld d_L_law_886 rfl rfl rfl rfl).trans ?_
  refine (rn_push d_L_law_887 zcs_iconst_5).trans ?_
  refine (rn_a2 d_L_law_888 rfl).trans ?_
  refine (rn_sld d_L_law_889).trans (zif ?_ rfl)
  refine (rn_vL d_L_law_890 (zinv_v l_5_114 (by decide) (Nat.le_of_ble_eq_true rfl) rfl rfl zc_123 (Nat.le_of_ble_eq_true rfl)) (Nat.le_of_ble_eq_true rfl) rfl).trans (zbL_congr fun v4 h3 => ?_)
  refine (rn_lcmp d_L_law_893).trans ?_
  refine (rn_if_eq d_L_law_894 (t := 1313) (by decide)).trans (zif ?_ ?_)
  · rfl
  · refine (rn_push d_L_law_897 zcs_iconst_0).trans ?_
    exact rn_rz d_L_law_898 rfl (by decide)
theorem b_L_law_899 {X : zX} {x3 : Int32} {h : zH} : zrn X 15 m_L_law 899 [some (.ref 0), some (.ref 1), some (.ref 123), some (.int x3)] [] h = (if zin (x3 + 1) X.1 = true then (zbI (zcf X m_X_busiest [.ref 1, .int (X.2 (Int32.toNatClampNeg (x3 + 1)))] h) fun v2 h1 => (if zin (x3 + 1) X.1 = true then (zbI (zcf X m_M_busiest [.ref 123, .int (X.2 (Int32.toNatClampNeg (x3 + 1)))] h1) fun v4 h3 => (if v2 = v4 then zrn X 15 m_L_law 1313 [some (.ref 0), some (.ref 1), some (.ref 123), some (.int x3)] [] h3 else (some (some (.int 0), h3)))) else none)) else none) := by
  refine (rn_ld d_L_law_899 rfl rfl rfl rfl).trans ?_
  refine (rn_ld d_L_law_900 rfl rfl rfl rfl).trans ?_
  refine (rn_ld d_L_law_901 rfl rfl rfl rfl).trans ?_
  refine (rn_push d_L_law_902 zcs_iconst_1).trans ?_
  refine (rn_a2 d_L_law_903 rfl).trans ?_
  refine (rn_sld d_L_law_904).trans (zif ?_ rfl)
  refine (rn_vI d_L_law_905 (zinv_v l_5_115 (by decide) (Nat.le_of_ble_eq_true rfl) rfl rfl zc_1 (Nat.le_of_ble_eq_true rfl)) (Nat.le_of_ble_eq_true rfl) (Or.inl rfl)).trans (zbI_congr fun v2 h1 => ?_)
  refine (rn_ld d_L_law_908 rfl rfl rfl rfl).trans ?_
  refine (rn_ld d_L_law_909 rfl rfl rfl rfl).trans ?_
  refine (rn_ld d_L_law_910 rfl rfl rfl rfl).trans ?_
  refine (rn_push d_L_law_911 zcs_iconst_1).trans ?_
  refine (rn_a2 d_L_law_912 rfl).trans ?_
  refine (rn_sld d_L_law_913).trans (zif ?_ rfl)
  refine (rn_vI d_L_law_914 (zinv_v l_5_118 (by decide) (Nat.le_of_ble_eq_true rfl) rfl rfl zc_123 (Nat.le_of_ble_eq_true rfl)) (Nat.le_of_ble_eq_true rfl) (Or.inl rfl)).trans (zbI_congr fun v4 h3 => ?_)
  refine (rn_ic_eq d_L_law_917 (t := 1313) (by decide)).trans (zif ?_ ?_)
  · rfl
  · refine (rn_push d_L_law_920 zcs_iconst_0).trans ?_
    exact rn_rz d_L_law_921 rfl (by decide)
theorem b_L_law_922 {X : zX} {x3 : Int32} {h : zH} : zrn X 15 m_L_law 922 [some (.ref 0), some (.ref 1), some (.ref 123), some (.int x3)] [] h = (if zin (x3 + 1) X.1 = true then (zbI (zcf X m_X_twos [.ref 1, .int (X.2 (Int32.toNatClampNeg (x3 + 1)))] h) fun v2 h1 => (if zin (x3 + 1) X.1 = true then (zbI (zcf X m_M_twos [.ref 123, .int (X.2 (Int32.toNatClampNeg (x3 + 1)))] h1) fun v4 h3 => (if v2 = v4 then zrn X 15 m_L_law 1313 [some (.ref 0), some (.ref 1), some (.ref 123), some (.int x3)] [] h3 else (some (some (.int 0), h3)))) else none)) else none) := by
  refine (rn_ld d_L_law_922 rfl rfl rfl rfl).trans ?_
  refine (rn_ld d_L_law_923 rfl rfl rfl rfl).trans ?_
  refine (rn_ld d_L_law_924 rfl rfl rfl rfl).trans ?_
  refine (rn_push d_L_law_925 zcs_iconst_1).trans ?_
  refine (rn_a2 d_L_law_926 rfl).trans ?_
  refine (rn_sld d_L_law_927).trans (zif ?_ rfl)
  refine (rn_vI d_L_law_928 (zinv_v l_5_119 (by decide) (Nat.le_of_ble_eq_true rfl) rfl rfl zc_1 (Nat.le_of_ble_eq_true rfl)) (Nat.le_of_ble_eq_true rfl) (Or.inl rfl)).trans (zbI_congr fun v2 h1 => ?_)
  refine (rn_ld d_L_law_931 rfl rfl rfl rfl).trans ?_
  refine (rn_ld d_L_law_932 rfl rfl rfl rfl).trans ?_
  refine (rn_ld d_L_law_933 rfl rfl rfl rfl).trans ?_
  refine (rn_push d_L_law_934 zcs_iconst_1).trans ?_
  refine (rn_a2 d_L_law_935 rfl).trans ?_
  refine (rn_sld d_L_law_936).trans (zif ?_ rfl)
  refine (rn_vI d_L_law_937 (zinv_v l_5_122 (by decide) (Nat.le_of_ble_eq_true rfl) rfl rfl zc_123 (Nat.le_of_ble_eq_true rfl)) (Nat.le_of_ble_eq_true rfl) (Or.inl rfl)).trans (zbI_congr fun v4 h3 => ?_)
  refine (rn_ic_eq d_L_law_940 (t := 1313) (by decide)).trans (zif ?_ ?_)
  · rfl
  · refine (rn_push d_L_law_943 zcs_iconst_0).trans ?_
    exact rn_rz d_L_law_944 rfl (by decide)
theorem b_L_law_945 {X : zX} {x3 : Int32} {h : zH} : zrn X 15 m_L_law 945 [some (.ref 0), some (.ref 1), some (.ref 123), some (.int x3)] [] h = (if zin (x3 + 1) X.1 = true then (zbI (zcf X m_X_nearest [.ref 1, .int (X.2 (Int32.toNatClampNeg (x3 + 1)))] h) fun v2 h1 => (if zin (x3 + 1) X.1 = true then (zbI (zcf X m_M_nearest [.ref 123, .int (X.2 (Int32.toNatClampNeg (x3 + 1)))] h1) fun v4 h3 => (if v2 = v4 then zrn X 15 m_L_law 1313 [some (.ref 0), some (.ref 1), some (.ref 123), some (.int x3)] [] h3 else (some (some (.int 0), h3)))) else none)) else none) := by
  refine (rn_ld d_L_law_945 rfl rfl rfl rfl).trans ?_
  refine (rn_ld d_L_law_946 rfl rfl rfl rfl).trans ?_
  refine (rn_ld d_L_law_947 rfl rfl rfl rfl).trans ?_
  refine (rn_push d_L_law_948 zcs_iconst_1).trans ?_
  refine (rn_a2 d_L_law_949 rfl).trans ?_
  refine (rn_sld d_L_law_950).trans (zif ?_ rfl)
  refine (rn_vI d_L_law_951 (zinv_v l_5_123 (by decide) (Nat.le_of_ble_eq_true rfl) rfl rfl zc_1 (Nat.le_of_ble_eq_true rfl)) (Nat.le_of_ble_eq_true rfl) (Or.inl rfl)).trans (zbI_congr fun v2 h1 => ?_)
  refine (rn_ld d_L_law_954 rfl rfl rfl rfl).trans ?_
  refine (rn_ld d_L_law_955 rfl rfl rfl rfl).trans ?_
  refine (rn_ld d_L_law_956 rfl rfl rfl rfl).trans ?_
  refine (rn_push d_L_law_957 zcs_iconst_1).trans ?_
  refine (rn_a2 d_L_law_958 rfl).trans ?_
  refine (rn_sld d_L_law_959).trans (zif ?_ rfl)
  refine (rn_vI d_L_law_960 (zinv_v l_5_126 (by decide) (Nat.le_of_ble_eq_true rfl) rfl rfl zc_123 (Nat.le_of_ble_eq_true rfl)) (Nat.le_of_ble_eq_true rfl) (Or.inl rfl)).trans (zbI_congr fun v4 h3 => ?_)
  refine (rn_ic_eq d_L_law_963 (t := 1313) (by decide)).trans (zif ?_ ?_)
  · rfl
  · refine (rn_push d_L_law_966 zcs_iconst_0).trans ?_
    exact rn_rz d_L_law_967 rfl (by decide)
theorem b_L_law_968 {X : zX} {x3 : Int32} {h : zH} : zrn X 15 m_L_law 968 [some (.ref 0), some (.ref 1), some (.ref 123), some (.int x3)] [] h = (zbI (zcf X m_X_lines [.ref 1] h) fun v2 h1 => (zbI (zcf X m_M_lines [.ref 123] h1) fun v4 h3 => (if v2 = v4 then zrn X 15 m_L_law 1313 [some (.ref 0), some (.ref 1), some (.ref 123), some (.int x3)] [] h3 else (some (some (.int 0), h3))))) := by
  refine (rn_ld d_L_law_968 rfl rfl rfl rfl).trans ?_
  refine (rn_vI d_L_law_969 (zinv_v l_5_127 (by decide) (Nat.le_of_ble_eq_true rfl) rfl rfl zc_1 (Nat.le_of_ble_eq_true rfl)) (Nat.le_of_ble_eq_true rfl) (Or.inl rfl)).trans (zbI_congr fun v2 h1 => ?_)
  refine (rn_ld d_L_law_972 rfl rfl rfl rfl).trans ?_
  refine (rn_vI d_L_law_973 (zinv_v l_5_130 (by decide) (Nat.le_of_ble_eq_true rfl) rfl rfl zc_123 (Nat.le_of_ble_eq_true rfl)) (Nat.le_of_ble_eq_true rfl) (Or.inl rfl)).trans (zbI_congr fun v4 h3 => ?_)
  refine (rn_ic_eq d_L_law_976 (t := 1313) (by decide)).trans (zif ?_ ?_)
  · rfl
  · refine (rn_push d_L_law_979 zcs_iconst_0).trans ?_
    exact rn_rz d_L_law_980 rfl (by decide)
theorem b_L_law_981 {X : zX} {x3 : Int32} {h : zH} : zrn X 15 m_L_law 981 [some (.ref 0), some (.ref 1), some (.ref 123), some (.int x3)] [] h = (zbI (zcf X m_X_hidden [.ref 1] h) fun v2 h1 => (zbI (zcf X m_M_hidden [.ref 123] h1) fun v4 h3 => (if v2 = v4 then zrn X 15 m_L_law 1313 [some (.ref 0), some (.ref 1), some (.ref 123), some (.int x3)] [] h3 else (some (some (.int 0), h3))))) := by
  refine (rn_ld d_L_law_981 rfl rfl rfl rfl).trans ?_
  refine (rn_vI d_L_law_982 (zinv_v l_5_131 (by decide) (Nat.le_of_ble_eq_true rfl) rfl rfl zc_1 (Nat.le_of_ble_eq_true rfl)) (Nat.le_of_ble_eq_true rfl) (Or.inl rfl)).trans (zbI_congr fun v2 h1 => ?_)
  refine (rn_ld d_L_law_985 rfl rfl rfl rfl).trans ?_
  refine (rn_vI d_L_law_986 (zinv_v l_5_134 (by decide) (Nat.le_of_ble_eq_true rfl) rfl rfl zc_123 (Nat.le_of_ble_eq_true rfl)) (Nat.le_of_ble_eq_true rfl) (Or.inl rfl)).trans (zbI_congr fun v4 h3 => ?_)
  refine (rn_ic_eq d_L_law_989 (t := 1313) (by decide)).trans (zif ?_ ?_)
  · rfl
  · refine (rn_push d_L_law_992 zcs_iconst_0).trans ?_
    exact rn_rz d_L_law_993 rfl (by decide)
theorem b_L_law_994 {X : zX} {x3 : Int32} {h : zH} : zrn X 15 m_L_law 994 [some (.ref 0), some (.ref 1), some (.ref 123), some (.int x3)] [] h = (zbI (zcf X m_X_longest [.ref 1] h) fun v2 h1 => (zbI (zcf X m_M_longest [.ref 123] h1) fun v4 h3 => (if v2 = v4 then zrn X 15 m_L_law 1313 [some (.ref 0), some (.ref 1), some (.ref 123), some (.int x3)] [] h3 else (some (some (.int 0), h3))))) := by
  refine (rn_ld d_L_law_994 rfl rfl rfl rfl).trans ?_
  refine (rn_vI d_L_law_995 (zinv_v l_5_135 (by decide) (Nat.le_of_ble_eq_true rfl) rfl rfl zc_1 (Nat.le_of_ble_eq_true rfl)) (Nat.le_of_ble_eq_true rfl) (Or.inl rfl)).trans (zbI_congr fun v2 h1 => ?_)
  refine (rn_ld d_L_law_998 rfl rfl rfl rfl).trans ?_
  refine (rn_vI d_L_law_999 (zinv_v l_5_138 (by decide) (Nat.le_of_ble_eq_true rfl) rfl rfl zc_123 (Nat.le_of_ble_eq_true rfl)) (Nat.le_of_ble_eq_true rfl) (Or.inl rfl)).trans (zbI_congr fun v4 h3 => ?_)
  refine (rn_ic_eq d_L_law_1002 (t := 1313) (by decide)).trans (zif ?_ ?_)
  · rfl
  · refine (rn_push d_L_law_1005 zcs_iconst_0).trans ?_
    exact rn_rz d_L_law_1006 rfl (by decide)
theorem b_L_law_1007 {X : zX} {x3 : Int32} {h : zH} : zrn X 15 m_L_law 1007 [some (.ref 0), some (.ref 1), some (.ref 123), some (.int x3)] [] h = (if zin (x3 + 1) X.1 = true then (if zin (x3 + 2) X.1 = true then (if zin (x3 + 3) X.1 = true then (zbI (zcf X m_X_walks [.ref 1, .int (X.2 (Int32.toNatClampNeg (x3 + 1))), .int (X.2 (Int32.toNatClampNeg (x3 + 2))), .int (X.2 (Int32.toNatClampNeg (x3 + 3)))] h) fun v2 h1 => (if zin (x3 + 1) X.1 = true then (if zin (x3 + 2) X.1 = true then (if zin (x3 + 3) X.1 = true then (zbI (zcf X m_M_walks [.ref 123, .int (X.2 (Int32.toNatClampNeg (x3 + 1))), .int (X.2 (Int32.toNatClampNeg (x3 + 2))), .int (X.2 (Int32.toNatClampNeg (x3 + 3)))] h1) fun v4 h3 => (if v2 = v4 then zrn X 15 m_L_law 1313 [some (.ref 0), some (.ref 1), some (.ref 123), some (.int x3)] [] h3 else (some (some (.int 0), h3)))) else none) else none) else none)) else none) else none) else none) := by
  refine (rn_ld d_L_law_1007 rfl rfl rfl rfl).trans ?_
  refine (rn_ld d_L_law_1008 rfl rfl rfl rfl).trans ?_
  refine (rn_ld d_L_law_1009 rfl rfl rfl rfl).trans ?_
  refine (rn_push d_L_law_1010 zcs_iconst_1).trans ?_
  refine (rn_a2 d_L_law_1011 rfl).trans ?_
  refine (rn_sld d_L_law_1012).trans (zif ?_ rfl)
  refine (rn_ld d_L_law_1013 rfl rfl rfl rfl).trans ?_
  refine (rn_ld d_L_law_1014 rfl rfl rfl rfl).trans ?_
  refine (rn_push d_L_law_1015 zcs_iconst_2).trans ?_
  refine (rn_a2 d_L_law_1016 rfl).trans ?_
  refine (rn_sld d_L_law_1017).trans (zif ?_ rfl)
  refine (rn_ld d_L_law_1018 rfl rfl rfl rfl).trans ?_
  refine (rn_ld d_L_law_1019 rfl rfl rfl rfl).trans ?_
  refine (rn_push d_L_law_1020 zcs_iconst_3).trans ?_
  refine (rn_a2 d_L_law_1021 rfl).trans ?_
  refine (rn_sld d_L_law_1022).trans (zif ?_ rfl)
  refine (rn_vI d_L_law_1023 (zinv_v l_5_139 (by decide) (Nat.le_of_ble_eq_true rfl) rfl rfl zc_1 (Nat.le_of_ble_eq_true rfl)) (Nat.le_of_ble_eq_true rfl) (Or.inl rfl)).trans (zbI_congr fun v2 h1 => ?_)
  refine (rn_ld d_L_law_1026 rfl rfl rfl rfl).trans ?_
  refine (rn_ld d_L_law_1027 rfl rfl rfl rfl).trans ?_
  refine (rn_ld d_L_law_1028 rfl rfl rfl rfl).trans ?_
  refine (rn_push d_L_law_1029 zcs_iconst_1).trans ?_
  refine (rn_a2 d_L_law_1030 rfl).trans ?_
  refine (rn_sld d_L_law_1031).trans (zif ?_ rfl)
  refine (rn_ld d_L_law_1032 rfl rfl rfl rfl).trans ?_
  refine (rn_ld d_L_law_1033 rfl rfl rfl rfl).trans ?_
  refine (rn_push d_L_law_1034 zcs_iconst_2).trans ?_
  refine (rn_a2 d_L_law_1035 rfl).trans ?_
  refine (rn_sld d_L_law_1036).trans (zif ?_ rfl)
  refine (rn_ld d_L_law_1037 rfl rfl rfl rfl).trans ?_
  refine (rn_ld d_L_law_1038 rfl rfl rfl rfl).trans ?_
  refine (rn_push d_L_law_1039 zcs_iconst_3).trans ?_
  refine (rn_a2 d_L_law_1040 rfl).trans ?_
  refine (rn_sld d_L_law_1041).trans (zif ?_ rfl)
  refine (rn_vI d_L_law_1042 (zinv_v l_5_142 (by decide) (Nat.le_of_ble_eq_true rfl) rfl rfl zc_123 (Nat.le_of_ble_eq_true rfl)) (Nat.le_of_ble_eq_true rfl) (Or.inl rfl)).trans (zbI_congr fun v4 h3 => ?_)
  refine (rn_ic_eq d_L_law_1045 (t := 1313) (by decide)).trans (zif ?_ ?_)
  · rfl
  · refine (rn_push d_L_law_1048 zcs_iconst_0).trans ?_
    exact rn_rz d_L_law_1049 rfl (by decide)
theorem b_L_law_1050 {X : zX} {x3 : Int32} {h : zH} : zrn X 15 m_L_law 1050 [some (.ref 0), some (.ref 1), some (.ref 123), some (.int x3)] [] h = (if zin (x3 + 1) X.1 = true then (if zin (x3 + 2) X.1 = true then (zbI (zcf X m_X_meets [.ref 1, .int (X.2 (Int32.toNatClampNeg (x3 + 1))), .int (X.2 (Int32.toNatClampNeg (x3 + 2)))] h) fun v2 h1 => (if zin (x3 + 1) X.1 = true then (if zin (x3 + 2) X.1 = true then (zbI (zcf X m_M_meets [.ref 123, .int (X.2 (Int32.toNatClampNeg (x3 + 1))), .int (X.2 (Int32.toNatClampNeg (x3 + 2)))] h1) fun v4 h3 => (if v2 = v4 then zrn X 15 m_L_law 1313 [some (.ref 0), some (.ref 1), some (.ref 123), some (.int x3)] [] h3 else (some (some (.int 0), h3)))) else none) else none)) else none) else none) := by
  refine (rn_ld d_L_law_1050 rfl rfl rfl rfl).trans ?_
  refine (rn_ld d_L_law_1051 rfl rfl rfl rfl).trans ?_
  refine (rn_ld d_L_law_1052 rfl rfl rfl rfl).trans ?_
  refine (rn_push d_L_law_1053 zcs_iconst_1).trans ?_
  refine (rn_a2 d_L_law_1054 rfl).trans ?_
  refine (rn_sld d_L_law_1055).trans (zif ?_ rfl)
  refine (rn_ld d_L_law_1056 rfl rfl rfl rfl).trans ?_
  refine (rn_ld d_L_law_1057 rfl rfl rfl rfl).trans ?_
  refine (rn_push d_L_law_1058 zcs_iconst_2).trans ?_
  refine (rn_a2 d_L_law_1059 rfl).trans ?_
  refine (rn_sld d_L_law_1060).trans (zif ?_ rfl)
  refine (rn_vI d_L_law_1061 (zinv_v l_5_143 (by decide) (Nat.le_of_ble_eq_true rfl) rfl rfl zc_1 (Nat.le_of_ble_eq_true rfl)) (Nat.le_of_ble_eq_true rfl) (Or.inl rfl)).trans (zbI_congr fun v2 h1 => ?_)
  refine (rn_ld d_L_law_1064 rfl rfl rfl rfl).trans ?_
  refine (rn_ld d_L_law_1065 rfl rfl rfl rfl).trans ?_
  refine (rn_ld d_L_law_1066 rfl rfl rfl rfl).trans ?_
  refine (rn_push d_L_law_1067 zcs_iconst_1).trans ?_
  refine (rn_a2 d_L_law_1068 rfl).trans ?_
  refine (rn_sld d_L_law_1069).trans (zif ?_ rfl)
  refine (rn_ld d_L_law_1070 rfl rfl rfl rfl).trans ?_
  refine (rn_ld d_L_law_1071 rfl rfl rfl rfl).trans ?_
  refine (rn_push d_L_law_1072 zcs_iconst_2).trans ?_
  refine (rn_a2 d_L_law_1073 rfl).trans ?_
  refine (rn_sld d_L_law_1074).trans (zif ?_ rfl)
  refine (rn_vI d_L_law_1075 (zinv_v l_5_146 (by decide) (Nat.le_of_ble_eq_true rfl) rfl rfl zc_123 (Nat.le_of_ble_eq_true rfl)) (Nat.le_of_ble_eq_true rfl) (Or.inl rfl)).trans (zbI_congr fun v4 h3 => ?_)
  refine (rn_ic_eq d_L_law_1078 (t := 1313) (by decide)).trans (zif ?_ ?_)
  · rfl
  · refine (rn_push d_L_law_1081 zcs_iconst_0).trans ?_
    exact rn_rz d_L_law_1082 rfl (by decide)
theorem b_L_law_1083 {X : zX} {x3 : Int32} {h : zH} : zrn X 15 m_L_law 1083 [some (.ref 0), some (.ref 1), some (.ref 123), some (.int x3)] [] h = (if zin (x3 + 1) X.1 = true then (if zin (x3 + 2) X.1 = true then (zbI (zcf X m_X_leave [.ref 1, .int (X.2 (Int32.toNatClampNeg (x3 + 1))), .int (X.2 (Int32.toNatClampNeg (x3 + 2)))] h) fun v2 h1 => (if zin (x3 + 1) X.1 = true then (if zin (x3 + 2) X.1 = true then (zbI (zcf X m_M_leave [.ref 123, .int (X.2 (Int32.toNatClampNeg (x3 + 1))), .int (X.2 (Int32.toNatClampNeg (x3 + 2)))] h1) fun v4 h3 => (if v2 = v4 then zrn X 15 m_L_law 1313 [some (.ref 0), some (.ref 1), some (.ref 123), some (.int x3)] [] h3 else (some (some (.int 0), h3)))) else none) else none)) else none) else none) := by
  refine (rn_ld d_L_law_1083 rfl rfl rfl rfl).trans ?_
  refine (rn_ld d_L_law_1084 rfl rfl rfl rfl).trans ?_
  refine (rn_ld d_L_law_1085 rfl rfl rfl rfl).trans ?_
  refine (rn_push d_L_law_1086 zcs_iconst_1).trans ?_
  refine (rn_a2 d_L_law_1087 rfl).trans ?_
  refine (rn_sld d_L_law_1088).trans (zif ?_ rfl)
  refine (rn_ld d_L_law_1089 rfl rfl rfl rfl).trans ?_
  refine (rn_ld d_L_law_1090 rfl rfl rfl rfl).trans ?_
  refine (rn_push d_L_law_1091 zcs_iconst_2).trans ?_
  refine (rn_a2 d_L_law_1092 rfl).trans ?_
  refine (rn_sld d_L_law_1093).trans (zif ?_ rfl)
  refine (rn_vI d_L_law_1094 (zinv_v l_5_147 (by decide) (Nat.le_of_ble_eq_true rfl) rfl rfl zc_1 (Nat.le_of_ble_eq_true rfl)) (Nat.le_of_ble_eq_true rfl) (Or.inl rfl)).trans (zbI_congr fun v2 h1 => ?_)
  refine (rn_ld d_L_law_1097 rfl rfl rfl rfl).trans ?_
  refine (rn_ld d_L_law_1098 rfl rfl rfl rfl).trans ?_
  refine (rn_ld d_L_law_1099 rfl rfl rfl rfl).trans ?_
  refine (rn_push d_L_law_1100 zcs_iconst_1).trans ?_
  refine (rn_a2 d_L_law_1101 rfl).trans ?_
  refine (rn_sld d_L_law_1102).trans (zif ?_ rfl)
  refine (rn_ld d_L_law_1103 rfl rfl rfl rfl).trans ?_
  refine (rn_ld d_L_law_1104 rfl rfl rfl rfl).trans ?_
  refine (rn_push d_L_law_1105 zcs_iconst_2).trans ?_
  refine (rn_a2 d_L_law_1106 rfl).trans ?_
  refine (rn_sld d_L_law_1107).trans (zif ?_ rfl)
  refine (rn_vI d_L_law_1108 (zinv_v l_5_150 (by decide) (Nat.le_of_ble_eq_true rfl) rfl rfl zc_123 (Nat.le_of_ble_eq_true rfl)) (Nat.le_of_ble_eq_true rfl) (Or.inl rfl)).trans (zbI_congr fun v4 h3 => ?_)
  refine (rn_ic_eq d_L_law_1111 (t := 1313) (by decide)).trans (zif ?_ ?_)
  · rfl
  · refine (rn_push d_L_law_1114 zcs_iconst_0).trans ?_
    exact rn_rz d_L_law_1115 rfl (by decide)
theorem b_L_law_1116 {X : zX} {x3 : Int32} {h : zH} : zrn X 15 m_L_law 1116 [some (.ref 0), some (.ref 1), some (.ref 123), some (.int x3)] [] h = (if zin (x3 + 1) X.1 = true then (if zin (x3 + 2) X.1 = true then (zbI (zcf X m_X_most [.ref 1, .int (X.2 (Int32.toNatClampNeg (x3 + 1))), .int (X.2 (Int32.toNatClampNeg (x3 + 2)))] h) fun v2 h1 => (if zin (x3 + 1) X.1 = true then (if zin (x3 + 2) X.1 = true then (zbI (zcf X m_M_most [.ref 123, .int (X.2 (Int32.toNatClampNeg (x3 + 1))), .int (X.2 (Int32.toNatClampNeg (x3 + 2)))] h1) fun v4 h3 => (if v2 = v4 then zrn X 15 m_L_law 1313 [some (.ref 0), some (.ref 1), some (.ref 123), some (.int x3)] [] h3 else (some (some (.int 0), h3)))) else none) else none)) else none) else none) := by
  refine (rn_ld d_L_law_1116 rfl rfl rfl rfl).trans ?_
  refine (rn_ld d_L_law_1117 rfl rfl rfl rfl).trans ?_
  refine (rn_ld d_L_law_1118 rfl rfl rfl rfl).trans ?_
  refine (rn_push d_L_law_1119 zcs_iconst_1).trans ?_
  refine (rn_a2 d_L_law_1120 rfl).trans ?_
  refine (rn_sld d_L_law_1121).trans (zif ?_ rfl)
  refine (rn_ld d_L_law_1122 rfl rfl rfl rfl).trans ?_
  refine (rn_ld d_L_law_1123 rfl rfl rfl rfl).trans ?_
  refine (rn_push d_L_law_1124 zcs_iconst_2).trans ?_
  refine (rn_a2 d_L_law_1125 rfl).trans ?_
  refine (rn_sld d_L_law_1126).trans (zif ?_ rfl)
  refine (rn_vI d_L_law_1127 (zinv_v l_5_151 (by decide) (Nat.le_of_ble_eq_true rfl) rfl rfl zc_1 (Nat.le_of_ble_eq_true rfl)) (Nat.le_of_ble_eq_true rfl) (Or.inl rfl)).trans (zbI_congr fun v2 h1 => ?_)
  refine (rn_ld d_L_law_1130 rfl rfl rfl rfl).trans ?_
  refine (rn_ld d_L_law_1131 rfl rfl rfl rfl).trans ?_
  refine (rn_ld d_L_law_1132 rfl rfl rfl rfl).trans ?_
  refine (rn_push d_L_law_1133 zcs_iconst_1).trans ?_
  refine (rn_a2 d_L_law_1134 rfl).trans ?_
  refine (rn_sld d_L_law_1135).trans (zif ?_ rfl)
  refine (rn_ld d_L_law_1136 rfl rfl rfl rfl).trans ?_
  refine (rn_ld d_L_law_1137 rfl rfl rfl rfl).trans ?_
  refine (rn_push d_L_law_1138 zcs_iconst_2).trans ?_
  refine (rn_a2 d_L_law_1139 rfl).trans ?_
  refine (rn_sld d_L_law_1140).trans (zif ?_ rfl)
  refine (rn_vI d_L_law_1141 (zinv_v l_5_154 (by decide) (Nat.le_of_ble_eq_true rfl) rfl rfl zc_123 (Nat.le_of_ble_eq_true rfl)) (Nat.le_of_ble_eq_true rfl) (Or.inl rfl)).trans (zbI_congr fun v4 h3 => ?_)
  refine (rn_ic_eq d_L_law_1144 (t := 1313) (by decide)).trans (zif ?_ ?_)
  · rfl
  · refine (rn_push d_L_law_1147 zcs_iconst_0).trans ?_
    exact rn_rz d_L_law_1148 rfl (by decide)
theorem b_L_law_1149 {X : zX} {x3 : Int32} {h : zH} : zrn X 15 m_L_law 1149 [some (.ref 0), some (.ref 1), some (.ref 123), some (.int x3)] [] h = (if zin (x3 + 1) X.1 = true then (zbI (zcf X m_X_quiet [.ref 1, .int (X.2 (Int32.toNatClampNeg (x3 + 1)))] h) fun v2 h1 => (if zin (x3 + 1) X.1 = true then (zbI (zcf X m_M_quiet [.ref 123, .int (X.2 (Int32.toNatClampNeg (x3 + 1)))] h1) fun v4 h3 => (if v2 = v4 then zrn X 15 m_L_law 1313 [some (.ref 0), some (.ref 1), some (.ref 123), some (.int x3)] [] h3 else (some (some (.int 0), h3)))) else none)) else none) := by
  refine (rn_ld d_L_law_1149 rfl rfl rfl rfl).trans ?_
  refine (rn_ld d_L_law_1150 rfl rfl rfl rfl).trans ?_
  refine (rn_ld d_L_law_1151 rfl rfl rfl rfl).trans ?_
  refine (rn_push d_L_law_1152 zcs_iconst_1).trans ?_
  refine (rn_a2 d_L_law_1153 rfl).trans ?_
  refine (rn_sld d_L_law_1154).trans (zif ?_ rfl)
  refine (rn_vI d_L_law_1155 (zinv_v l_5_155 (by decide) (Nat.le_of_ble_eq_true rfl) rfl rfl zc_1 (Nat.le_of_ble_eq_true rfl)) (Nat.le_of_ble_eq_true rfl) (Or.inl rfl)).trans (zbI_congr fun v2 h1 => ?_)
  refine (rn_ld d_L_law_1158 rfl rfl rfl rfl).trans ?_
  refine (rn_ld d_L_law_1159 rfl rfl rfl rfl).trans ?_
  refine (rn_ld d_L_law_1160 rfl rfl rfl rfl).trans ?_
  refine (rn_push d_L_law_1161 zcs_iconst_1).trans ?_
  refine (rn_a2 d_L_law_1162 rfl).trans ?_
  refine (rn_sld d_L_law_1163).trans (zif ?_ rfl)
  refine (rn_vI d_L_law_1164 (zinv_v l_5_158 (by decide) (Nat.le_of_ble_eq_true rfl) rfl rfl zc_123 (Nat.le_of_ble_eq_true rfl)) (Nat.le_of_ble_eq_true rfl) (Or.inl rfl)).trans (zbI_congr fun v4 h3 => ?_)
  refine (rn_ic_eq d_L_law_1167 (t := 1313) (by decide)).trans (zif ?_ ?_)
  · rfl
  · refine (rn_push d_L_law_1170 zcs_iconst_0).trans ?_
    exact rn_rz d_L_law_1171 rfl (by decide)
theorem b_L_law_1172 {X : zX} {x3 : Int32} {h : zH} : zrn X 15 m_L_law 1172 [some (.ref 0), some (.ref 1), some (.ref 123), some (.int x3)] [] h = (if zin (x3 + 1) X.1 = true then (zbI (zcf X m_X_row [.ref 1, .int (X.2 (Int32.toNatClampNeg (x3 + 1)))] h) fun v2 h1 => (if zin (x3 + 1) X.1 = true then (zbI (zcf X m_M_row [.ref 123, .int (X.2 (Int32.toNatClampNeg (x3 + 1)))] h1) fun v4 h3 => (if v2 = v4 then zrn X 15 m_L_law 1313 [some (.ref 0), some (.ref 1), some (.ref 123), some (.int x3)] [] h3 else (some (some (.int 0), h3)))) else none)) else none) := by
  refine (rn_ld d_L_law_1172 rfl rfl rfl rfl).trans ?_
  refine (rn_ld d_L_law_1173 rfl rfl rfl rfl).trans ?_
  refine (rn_ld d_L_law_1174 rfl rfl rfl rfl).trans ?_
  refine (rn_push d_L_law_1175 zcs_iconst_1).trans ?_
  refine (rn_a2 d_L_law_1176 rfl).trans ?_
  refine (rn_sld d_L_law_1177).trans (zif ?_ rfl)
  refine (rn_vI d_L_law_1178 (zinv_v l_5_159 (by decide) (Nat.le_of_ble_eq_true rfl) rfl rfl zc_1 (Nat.le_of_ble_eq_true rfl)) (Nat.le_of_ble_eq_true rfl) (Or.inl rfl)).trans (zbI_congr fun v2 h1 => ?_)
  refine (rn_ld d_L_law_1181 rfl rfl rfl rfl).trans ?_
  refine (rn_ld d_L_law_1182 rfl rfl rfl rfl).trans ?_
  refine (rn_ld d_L_law_1183 rfl rfl rfl rfl).trans ?_
  refine (rn_push d_L_law_1184 zcs_iconst_1).trans ?_
  refine (rn_a2 d_L_law_1185 rfl).trans ?_
  refine (rn_sld d_L_law_1186).trans (zif ?_ rfl)
  refine (rn_vI d_L_law_1187 (zinv_v l_5_162 (by decide) (Nat.le_of_ble_eq_true rfl) rfl rfl zc_123 (Nat.le_of_ble_eq_true rfl)) (Nat.le_of_ble_eq_true rfl) (Or.inl rfl)).trans (zbI_congr fun v4 h3 => ?_)
  refine (rn_ic_eq d_L_law_1190 (t := 1313) (by decide)).trans (zif ?_ ?_)
  · rfl
  · refine (rn_push d_L_law_1193 zcs_iconst_0).trans ?_
    exact rn_rz d_L_law_1194 rfl (by decide)
theorem b_L_law_1195 {X : zX} {x3 : Int32} {h : zH} : zrn X 15 m_L_law 1195 [some (.ref 0), some (.ref 1), some (.ref 123), some (.int x3)] [] h = (zbI (zcf X m_X_judge [.ref 1] h) fun v2 h1 => (zbI (zcf X m_M_judge [.ref 123] h1) fun v4 h3 => (if v2 = v4 then zrn X 15 m_L_law 1313 [some (.ref 0), some (.ref 1), some (.ref 123), some (.int x3)] [] h3 else (some (some (.int 0), h3))))) := by
  refine (rn_ld d_L_law_1195 rfl rfl rfl rfl).trans ?_
  refine (rn_vI d_L_law_1196 (zinv_v l_5_163 (by decide) (Nat.le_of_ble_eq_true rfl) rfl rfl zc_1 (Nat.le_of_ble_eq_true rfl)) (Nat.le_of_ble_eq_true rfl) (Or.inl rfl)).trans (zbI_congr fun v2 h1 => ?_)
  refine (rn_ld d_L_law_1199 rfl rfl rfl rfl).trans ?_
  refine (rn_vI d_L_law_1200 (zinv_v l_5_166 (by decide) (Nat.le_of_ble_eq_true rfl) rfl rfl zc_123 (Nat.le_of_ble_eq_true rfl)) (Nat.le_of_ble_eq_true rfl) (Or.inl rfl)).trans (zbI_congr fun v4 h3 => ?_)
  refine (rn_ic_eq d_L_law_1203 (t := 1313) (by decide)).trans (zif ?_ ?_)
  · rfl
  · refine (rn_push d_L_law_1206 zcs_iconst_0).trans ?_
    exact rn_rz d_L_law_1207 rfl (by decide)
theorem b_L_law_1208 {X : zX} {x3 : Int32} {h : zH} : zrn X 15 m_L_law 1208 [some (.ref 0), some (.ref 1), some (.ref 123), some (.int x3)] [] h = (zbI (zcf X m_X_clear [.ref 1] h) fun v2 h1 => (zbI (zcf X m_M_clear [.ref 123] h1) fun v4 h3 => (if v2 = v4 then zrn X 15 m_L_law 1313 [some (.ref 0), some (.ref 1), some (.ref 123), some (.int x3)] [] h3 else (some (some (.int 0), h3))))) := by
  refine (rn_ld d_L_law_1208 rfl rfl rfl rfl).trans ?_
  refine (rn_vI d_L_law_1209 (zinv_v l_5_167 (by decide) (Nat.le_of_ble_eq_true rfl) rfl rfl zc_1 (Nat.le_of_ble_eq_true rfl)) (Nat.le_of_ble_eq_true rfl) (Or.inl rfl)).trans (zbI_congr fun v2 h1 => ?_)
  refine (rn_ld d_L_law_1212 rfl rfl rfl rfl).trans ?_
  refine (rn_vI d_L_law_1213 (zinv_v l_5_170 (by decide) (Nat.le_of_ble_eq_true rfl) rfl rfl zc_123 (Nat.le_of_ble_eq_true rfl)) (Nat.le_of_ble_eq_true rfl) (Or.inl rfl)).trans (zbI_congr fun v4 h3 => ?_)
  refine (rn_ic_eq d_L_law_1216 (t := 1313) (by decide)).trans (zif ?_ ?_)
  · rfl
  · refine (rn_push d_L_law_1219 zcs_iconst_0).trans ?_
    exact rn_rz d_L_law_1220 rfl (by decide)
theorem b_L_law_1221 {X : zX} {x3 : Int32} {h : zH} : zrn X 15 m_L_law 1221 [some (.ref 0), some (.ref 1), some (.ref 123), some (.int x3)] [] h = (if zin (x3 + 1) X.1 = true then (if zin (x3 + 2) X.1 = true then (if zin (x3 + 3) X.1 = true then (zbI (zcf X m_X_lots [.ref 1, .int (X.2 (Int32.toNatClampNeg (x3 + 1))), .int (X.2 (Int32.toNatClampNeg (x3 + 2))), .int (X.2 (Int32.toNatClampNeg (x3 + 3)))] h) fun v2 h1 => (if zin (x3 + 1) X.1 = true then (if zin (x3 + 2) X.1 = true then (if zin (x3 + 3) X.1 = true then (zbI (zcf X m_M_lots [.ref 123, .int (X.2 (Int32.toNatClampNeg (x3 + 1))), .int (X.2 (Int32.toNatClampNeg (x3 + 2))), .int (X.2 (Int32.toNatClampNeg (x3 + 3)))] h1) fun v4 h3 => (if v2 = v4 then zrn X 15 m_L_law 1313 [some (.ref 0), some (.ref 1), some (.ref 123), some (.int x3)] [] h3 else (some (some (.int 0), h3)))) else none) else none) else none)) else none) else none) else none) := by
  refine (rn_ld d_L_law_1221 rfl rfl rfl rfl).trans ?_
  refine (rn_ld d_L_law_1222 rfl rfl rfl rfl).trans ?_
  refine (rn_ld d_L_law_1223 rfl rfl rfl rfl).trans ?_
  refine (rn_push d_L_law_1224 zcs_iconst_1).trans ?_
  refine (rn_a2 d_L_law_1225 rfl).trans ?_
  refine (rn_sld d_L_law_1226).trans (zif ?_ rfl)
  refine (rn_ld d_L_law_1227 rfl rfl rfl rfl).trans ?_
  refine (rn_ld d_L_law_1228 rfl rfl rfl rfl).trans ?_
  refine (rn_push d_L_law_1229 zcs_iconst_2).trans ?_
  refine (rn_a2 d_L_law_1230 rfl).trans ?_
  refine (rn_sld d_L_law_1231).trans (zif ?_ rfl)
  refine (rn_ld d_L_law_1232 rfl rfl rfl rfl).trans ?_
  refine (rn_ld d_L_law_1233 rfl rfl rfl rfl).trans ?_
  refine (rn_push d_L_law_1234 zcs_iconst_3).trans ?_
  refine (rn_a2 d_L_law_1235 rfl).trans ?_
  refine (rn_sld d_L_law_1236).trans (zif ?_ rfl)
  refine (rn_vI d_L_law_1237 (zinv_v l_5_171 (by decide) (Nat.le_of_ble_eq_true rfl) rfl rfl zc_1 (Nat.le_of_ble_eq_true rfl)) (Nat.le_of_ble_eq_true rfl) (Or.inl rfl)).trans (zbI_congr fun v2 h1 => ?_)
  refine (rn_ld d_L_law_1240 rfl rfl rfl rfl).trans ?_
  refine (rn_ld d_L_law_1241 rfl rfl rfl rfl).trans ?_
  refine (rn_ld d_L_law_1242 rfl rfl rfl rfl).trans ?_
  refine (rn_push d_L_law_1243 zcs_iconst_1).trans ?_
  refine (rn_a2 d_L_law_1244 rfl).trans ?_
  refine (rn_sld d_L_law_1245).trans (zif ?_ rfl)
  refine (rn_ld d_L_law_1246 rfl rfl rfl rfl).trans ?_
  refine (rn_ld d_L_law_1247 rfl rfl rfl rfl).trans ?_
  refine (rn_push d_L_law_1248 zcs_iconst_2).trans ?_
  refine (rn_a2 d_L_law_1249 rfl).trans ?_
  refine (rn_sld d_L_law_1250).trans (zif ?_ rfl)
  refine (rn_ld d_L_law_1251 rfl rfl rfl rfl).trans ?_
  refine (rn_ld d_L_law_1252 rfl rfl rfl rfl).trans ?_
  refine (rn_push d_L_law_1253 zcs_iconst_3).trans ?_
  refine (rn_a2 d_L_law_1254 rfl).trans ?_
  refine (rn_sld d_L_law_1255).trans (zif ?_ rfl)
  refine (rn_vI d_L_law_1256 (zinv_v l_5_174 (by decide) (Nat.le_of_ble_eq_true rfl) rfl rfl zc_123 (Nat.le_of_ble_eq_true rfl)) (Nat.le_of_ble_eq_true rfl) (Or.inl rfl)).trans (zbI_congr fun v4 h3 => ?_)
  refine (rn_ic_eq d_L_law_1259 (t := 1313) (by decide)).trans (zif ?_ ?_)
  · rfl
  · refine (rn_push d_L_law_1262 zcs_iconst_0).trans ?_
    exact rn_rz d_L_law_1263 rfl (by decide)
theorem b_L_law_1264 {X : zX} {x3 : Int32} {h : zH} : zrn X 15 m_L_law 1264 [some (.ref 0), some (.ref 1), some (.ref 123), some (.int x3)] [] h = (zbI (zcf X m_X_image [.ref 1] h) fun v2 h1 => (zbI (zcf X m_M_image [.ref 123] h1) fun v4 h3 => (if v2 = v4 then zrn X 15 m_L_law 1313 [some (.ref 0), some (.ref 1), some (.ref 123), some (.int x3)] [] h3 else (some (some (.int 0), h3))))) := by
  refine (rn_ld d_L_law_1264 rfl rfl rfl rfl).trans ?_
  refine (rn_vI d_L_law_1265 (zinv_v l_5_175 (by decide) (Nat.le_of_ble_eq_true rfl) rfl rfl zc_1 (Nat.le_of_ble_eq_true rfl)) (Nat.le_of_ble_eq_true rfl) (Or.inl rfl)).trans (zbI_congr fun v2 h1 => ?_)
  refine (rn_ld d_L_law_1268 rfl rfl rfl rfl).trans ?_
  refine (rn_vI d_L_law_1269 (zinv_v l_5_178 (by decide) (Nat.le_of_ble_eq_true rfl) rfl rfl zc_123 (Nat.le_of_ble_eq_true rfl)) (Nat.le_of_ble_eq_true rfl) (Or.inl rfl)).trans (zbI_congr fun v4 h3 => ?_)
  refine (rn_ic_eq d_L_law_1272 (t := 1313) (by decide)).trans (zif ?_ ?_)
  · rfl
  · refine (rn_push d_L_law_1275 zcs_iconst_0).trans ?_
    exact rn_rz d_L_law_1276 rfl (by decide)
theorem b_L_law_1277 {X : zX} {x3 : Int32} {h : zH} : zrn X 15 m_L_law 1277 [some (.ref 0), some (.ref 1), some (.ref 123), some (.int x3)] [] h = (zbI (zcf X m_X_restore [.ref 1] h) fun v2 h1 => (zbI (zcf X m_M_restore [.ref 123] h1) fun v4 h3 => (if v2 = v4 then zrn X 15 m_L_law 1313 [some (.ref 0), some (.ref 1), some (.ref 123), some (.int x3)] [] h3 else (some (some (.int 0), h3))))) := by
  refine (rn_ld d_L_law_1277 rfl rfl rfl rfl).trans ?_
  refine (rn_vI d_L_law_1278 (zinv_v l_5_179 (by decide) (Nat.le_of_ble_eq_true rfl) rfl rfl zc_1 (Nat.le_of_ble_eq_true rfl)) (Nat.le_of_ble_eq_true rfl) (Or.inl rfl)).trans (zbI_congr fun v2 h1 => ?_)
  refine (rn_ld d_L_law_1281 rfl rfl rfl rfl).trans ?_
  refine (rn_vI d_L_law_1282 (zinv_v l_5_182 (by decide) (Nat.le_of_ble_eq_true rfl) rfl rfl zc_123 (Nat.le_of_ble_eq_true rfl)) (Nat.le_of_ble_eq_true rfl) (Or.inl rfl)).trans (zbI_congr fun v4 h3 => ?_)
  refine (rn_ic_eq d_L_law_1285 (t := 1313) (by decide)).trans (zif ?_ ?_)
  · rfl
  · refine (rn_push d_L_law_1288 zcs_iconst_0).trans ?_
    exact rn_rz d_L_law_1289 rfl (by decide)
theorem b_L_law_1290 {X : zX} {x3 : Int32} {h : zH} : zrn X 15 m_L_law 1290 [some (.ref 0), some (.ref 1), some (.ref 123), some (.int x3)] [] h = (if zin (x3 + 1) X.1 = true then (zbI (zcf X m_X_count [.ref 1, .int (X.2 (Int32.toNatClampNeg (x3 + 1)))] h) fun v2 h1 => (if zin (x3 + 1) X.1 = true then (zbI (zcf X m_M_count [.ref 123, .int (X.2 (Int32.toNatClampNeg (x3 + 1)))] h1) fun v4 h3 => (if v2 = v4 then zrn X 15 m_L_law 1313 [some (.ref 0), some (.ref 1), some (.ref 123), some (.int x3)] [] h3 else (some (some (.int 0), h3)))) else none)) else none) := by
  refine (rn_ld d_L_law_1290 rfl rfl rfl rfl).trans ?_
  refine (rn_ld d_L_law_1291 rfl rfl rfl rfl).trans ?_
  refine (rn_ld d_L_law_1292 rfl rfl rfl rfl).trans ?_
  refine (rn_push d_L_law_1293 zcs_iconst_1).trans ?_
  refine (rn_a2 d_L_law_1294 rfl).trans ?_
  refine (rn_sld d_L_law_1295).trans (zif ?_ rfl)
  refine (rn_vI d_L_law_1296 (zinv_v l_5_183 (by decide) (Nat.le_of_ble_eq_true rfl) rfl rfl zc_1 (Nat.le_of_ble_eq_true rfl)) (Nat.le_of_ble_eq_true rfl) (Or.inl rfl)).trans (zbI_congr fun v2 h1 => ?_)
  refine (rn_ld d_L_law_1299 rfl rfl rfl rfl).trans ?_
  refine (rn_ld d_L_law_1300 rfl rfl rfl rfl).trans ?_
  refine (rn_ld d_L_law_1301 rfl rfl rfl rfl).trans ?_
  refine (rn_push d_L_law_1302 zcs_iconst_1).trans ?_
  refine (rn_a2 d_L_law_1303 rfl).trans ?_
  refine (rn_sld d_L_law_1304).trans (zif ?_ rfl)
  refine (rn_vI d_L_law_1305 (zinv_v l_5_186 (by decide) (Nat.le_of_ble_eq_true rfl) rfl rfl zc_123 (Nat.le_of_ble_eq_true rfl)) (Nat.le_of_ble_eq_true rfl) (Or.inl rfl)).trans (zbI_congr fun v4 h3 => ?_)
  refine (rn_ic_eq d_L_law_1308 (t := 1313) (by decide)).trans (zif ?_ ?_)
  · rfl
  · refine (rn_push d_L_law_1311 zcs_iconst_0).trans ?_
    exact rn_rz d_L_law_1312 rfl (by decide)
theorem b_L_law_1313 {X : zX} {x3 : Int32} {h : zH} : zrn X 15 m_L_law 1313 [some (.ref 0), some (.ref 1), some (.ref 123), some (.int x3)] [] h = zrn X 15 m_L_law 18 [some (.ref 0), some (.ref 1), some (.ref 123), some (.int (x3 + 6))] [] h := by
  refine (rn_inc d_L_law_1313 rfl (c := 6) (by decide) (ls' := [some (.ref 0), some (.ref 1), some (.ref 123), some (.int (x3 + 6))]) rfl).trans ?_
  refine (rn_goto d_L_law_1316 (t := 18) (by decide)).trans ?_
  rfl
