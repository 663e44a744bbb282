/-! restore, count, personOf -/
section z35
variable {X : zX} {h : zH} {w : zW} {mx mm : zM} {as : List Value}
theorem xp_frg (R : XP h w) : XP (zup h.1 21 1 0, h.2) (uP w 0 (ws w)) := by
  obtain ⟨x, x1, x2, x3, x4⟩ := R.2.2.1
  refine R.uP ⟨x, x1, ?_, ?_, fun j hj => absurd hj (by omega)⟩ fun b j _ h1 _ => ?_
  · dsimp only; rw [zup_ns (by decide)]; exact x2
  · dsimp only; rw [zup_eq]; rfl
  · dsimp only; rw [zup_nc (by omega)]
theorem mp_frg (R : MP h w) : MP (zup h.1 123 27 0, h.2) (uP w 0 (ws w)) := R.uP (by dsimp only; rw [zup_eq]; rfl) (fun j hj => absurd hj (by omega)) (sM.up (by decide) (by decide)) fun b j _ _ h1 _ => by
  dsimp only
  unfold zup
  rw [if_neg h1]
theorem wv_frg (V : WV w) : WV (uP w 0 (ws w)) := V.uP (by omega) fun j hj => absurd hj (by omega)
theorem ok_restore (hX : XP h w) (hM : MP h w) (V : WV w) : OK2 X m_X_restore m_M_restore [] h := by
  by_cases hi : wi w = true
  · have v := V.2.1 hi
    refine OK2.go (r := nI (wj w).2) (w' := uP (uN w (wj w)) 0 (ws w)) hM V (wv_frg (V.uN v)) ?_ ?_
    · obtain ⟨n1, n2⟩ := hX.2.1.2 hi
      obtain ⟨h1, a1, a2, a3, a4⟩ := s_become (X := X) hH_2 hH_15 (by decide) n1 v.1.1
      have R1 : XP h1 (uN w (wj w)) := hX.uN ⟨a2, a3.trans n2⟩ fun b j hb h1 _ => a4.2 b j (by omega)
      refine ⟨_, ?_, xp_frg R1, FM.tr (a4.fm fun b j _ _ => by unfold pXa; omega) (FM.up (by unfold pXa; decide))⟩
      rw [e_X_restore, hX.2.1.1, if_pos hi, if_neg (by decide), a1, zbV_some, e_P_forget, zbV_some]
      dsimp only
      rw [zup_nc (by decide), a3, n2]
    · intro h1 H i1 i2 R
      obtain ⟨h2, a1, T⟩ := m_putAll (X := X) (h := H) (q := 134) (by decide) zc_135
      obtain ⟨t1, t2, t3, t4, t5⟩ := T
      obtain ⟨u1, u2⟩ := in_unlay (J := h2.1) v.1.1 (R.2.1.2 hi) fun j hj => by rw [Nat.zero_add]; exact t4 j hj
      have R1 : MP h2 (uN w (wj w)) := R.uN u1 u2 fun b j hb hS => t5 b j (fun z => hS (by unfold pS; omega)) (fun z => hS (by unfold pS; omega))
      refine ⟨_, ?_, mp_frg R1, FM.tr (h1 := h2) (fun b j hb => ?_) (FM.up (by unfold pMa; decide))⟩
      · rw [e_M_restore, i1, i2, R.2.1.1, if_pos hi, if_neg (by decide)]
        rw [a1, zbV_some]
        rw [zup_ns (by decide), u2]
      · unfold pMa at hb
        exact t5 b j (by omega) (by omega)
  · refine OK2.no (x := -3) 3 hX hM V (by decide) (by decide) (by decide) ?_ fun h1' H i1 i2 R => ⟨H, ?_, R, FM.rf⟩
    · rw [e_X_restore, hX.2.1.1, if_neg hi, if_pos rfl, zrx3]
    · rw [e_M_restore, i1, i2, R.2.1.1, if_neg hi, if_pos rfl, zrm3]
theorem m_hmsA {t : zT} (R : MR h t) (V : tV t) (x : Int32) : ∀ (m p : Nat) (y : Int32), p + m = tn t → zrn X 4 m_M_count 73 [some (.ref 123), some (.int x), some (.int y), some (.int (nI p))] [] h = some (some (.int (fold (fun q y => y + (if ahd t q = -9 then 0 else 1)) m p y)), h) := by
  have hn := V.1
  intro m
  induction m with
  | zero =>
    intro p y hp
    rw [b_M_count_73, R.1, if_pos (nI_le (by omega) (by omega))]
    rfl
  | succ m ih =>
    intro p y hp
    rw [b_M_count_73, R.1, if_neg (nI_ge (by omega) (by omega)), m_aheadOf R V (by omega), zbI_some, nI_add1, ih (p + 1) _ (by omega)]
    have e : (if 0 ≤ ahd t p then (1 : Int32) else 0) = (if ahd t p = -9 then 0 else 1) := by
      rcases ahd_rg t p with q | ⟨j, hj, q⟩
      · rw [q]; decide
      · rw [q, if_pos (nI_pos' (by omega)), if_neg (fun z => absurd (z ▸ nI_pos' (show j < 2 ^ 31 by omega)) (by decide))]
    rw [e]
    rfl
theorem m_hmsL {t : zT} (R : MR h t) (V : tV t) (x : Int32) : ∀ (m p : Nat) (y : Int32), p + m = tn t → zrn X 4 m_M_count 107 [some (.ref 123), some (.int x), some (.int y), some (.int (nI p))] [] h = some (some (.int (fold (fun q y => y + (if lns t q = -9 then 0 else 1)) m p y)), h) := by
  have hn := V.1
  intro m
  induction m with
  | zero =>
    intro p y hp
    rw [b_M_count_107, R.1, if_pos (nI_le (by omega) (by omega))]
    rfl
  | succ m ih =>
    intro p y hp
    rw [b_M_count_107, R.1, if_neg (nI_ge (by omega) (by omega)), m_lensOf R V (by omega), zbI_some, nI_add1, ih (p + 1) _ (by omega)]
    have e : (if 0 ≤ lns t p then (1 : Int32) else 0) = (if lns t p = -9 then 0 else 1) := by
      rcases lns_rg t p with q | ⟨j, hj, q⟩
      · rw [q]; decide
      · rw [q, if_pos (nI_pos' (by omega)), if_neg (fun z => absurd (z ▸ nI_pos' (show j < 2 ^ 31 by omega)) (by decide))]
    rw [e]
    rfl
/-- a question that changes nothing at all -/
theorem OK2.q0 {r : Int32} (hX : XP h w) (hM : MP h w) (V : WV w) (sx : zcf X mx (.ref 1 :: as) h = some (some (.int r), h)) (sm : ∀ h1 H : zH, zup h1.1 123 7 0 = H.1 → h1.2 = H.2 → MP H w → zcf X mm (.ref 123 :: as) h1 = some (some (.int r), H)) : OK2 X mx mm as h := OK2.qy hX hM V ⟨h, sx, FM.rf⟩ fun h1 H i1 i2 R => ⟨H, sm h1 H i1 i2 R, R, FM.rf⟩
theorem ok_count (hX : XP h w) (hM : MP h w) (V : WV w) {x : Int32} : OK2 X m_X_count m_M_count [.int x] h := by
  by_cases h0 : x = 0
  · exact OK2.q0 hX hM V (by rw [e_X_count, if_pos h0, hX.1.1.1]) fun h1 H i1 i2 R => by rw [e_M_count, if_pos h0, i1, i2, R.1.1.1]; rfl
  · by_cases h1 : x = 1
    · exact OK2.q0 hX hM V (by rw [e_X_count, if_neg h0, if_pos h1, hX.1.2]) fun h1' H i1 i2 R => by rw [e_M_count, if_neg h0, if_pos h1, i1, i2, R.1.2]; rfl
    · by_cases h2 : x = 2
      · exact OK2.q0 hX hM V (by rw [e_X_count, if_neg h0, if_neg h1, if_pos h2, s_startsTogether hH_2 hX.1.1 V.1.1.1, zbI_some]) fun h1' H i1 i2 R => by rw [e_M_count, if_neg h0, if_neg h1, if_pos h2, i1, i2, m_allOfStarts R.1.1 V.1.1.1, zbI_some]; rfl
      · by_cases h3 : x = 3
        · exact OK2.q0 hX hM V (by rw [e_X_count, if_neg h0, if_neg h1, if_neg h2, if_pos h3, s_howMany1 hH_2 hX.1.1 V.1.1, zbI_some]) fun h1' H i1 i2 R => by rw [e_M_count, if_neg h0, if_neg h1, if_neg h2, if_pos h3, i1, i2]; exact m_hmsA R.1.1 V.1.1 _ _ _ _ (Nat.zero_add _)
        · by_cases h4 : x = 4
          · exact OK2.q0 hX hM V (by rw [e_X_count, if_neg h0, if_neg h1, if_neg h2, if_neg h3, if_pos h4, s_howMany0 hH_2 hX.1.1 V.1.1, zbI_some]) fun h1' H i1 i2 R => by rw [e_M_count, if_neg h0, if_neg h1, if_neg h2, if_neg h3, if_pos h4, i1, i2]; exact m_hmsL R.1.1 V.1.1 _ _ _ _ (Nat.zero_add _)
          · by_cases h5 : x = 5
            · exact OK2.q0 hX hM V (by rw [e_X_count, if_neg h0, if_neg h1, if_neg h2, if_neg h3, if_neg h4, if_pos h5, hX.2.2.2.1.1]) fun h1' H i1 i2 R => by rw [e_M_count, if_neg h0, if_neg h1, if_neg h2, if_neg h3, if_neg h4, if_pos h5, i1, i2, R.2.2.2.1.1]
            · by_cases h6 : x = 6
              · exact OK2.q0 hX hM V (by rw [e_X_count, if_neg h0, if_neg h1, if_neg h2, if_neg h3, if_neg h4, if_neg h5, if_pos h6, hX.2.2.2.2.1.1]) fun h1' H i1 i2 R => by rw [e_M_count, if_neg h0, if_neg h1, if_neg h2, if_neg h3, if_neg h4, if_neg h5, if_pos h6, i1, i2, R.2.2.2.2.1.1]
              · by_cases h7 : x = 7
                · obtain ⟨y, y1, y2, y3, y4⟩ := hX.2.2.1
                  exact OK2.q0 hX hM V (by rw [e_X_count, if_neg h0, if_neg h1, if_neg h2, if_neg h3, if_neg h4, if_neg h5, if_neg h6, if_pos h7, y3]) fun h1' H i1 i2 R => by rw [e_M_count, if_neg h0, if_neg h1, if_neg h2, if_neg h3, if_neg h4, if_neg h5, if_neg h6, if_pos h7, i1, i2, R.2.2.1.1]
                · have ex : zcf X m_X_count [.ref 1, .int x] h = (if x < 11 then (some (some (.int (-9)), h)) else (if 16 < x then (some (some (.int (-9)), h)) else (zbI (zcf X m_X_at [.ref 74, .int (x - 10)] h) fun v16 h15 => (some (some (.int v16), h15))))) := by
                    rw [e_X_count, if_neg h0, if_neg h1, if_neg h2, if_neg h3, if_neg h4, if_neg h5, if_neg h6, if_neg h7]
                  have em : ∀ h1 H : zH, zup h1.1 123 7 0 = H.1 → h1.2 = H.2 → zcf X m_M_count [.ref 123, .int x] h1 = (if (11 : Int) ≤ x.toInt ∧ x.toInt ≤ 16 then (if zin (x - 10) 7 = true then (some (some (.int (H.1 129 (Int32.toNatClampNeg (x - 10)))), H)) else none) else (some (some (.int (-9)), H))) := by
                    intro h1' H i1 i2
                    rw [e_M_count, if_neg h0, if_neg h1, if_neg h2, if_neg h3, if_neg h4, if_neg h5, if_neg h6, if_neg h7, i1, i2, m_inI (L := 11) (U := 16) (by decide) (by decide), zbI_some]
                    by_cases q : (11 : Int) ≤ x.toInt ∧ x.toInt ≤ 16
                    · rw [if_pos q, if_pos q, if_neg (by decide)]
                    · rw [if_neg q, if_neg q, if_pos rfl]
                  have c1 : x < 11 ↔ x.toInt < 11 := by rw [Int32.lt_iff_toInt_lt]; rfl
                  have c2 : 16 < x ↔ 16 < x.toInt := by rw [Int32.lt_iff_toInt_lt]; rfl
                  by_cases q : (11 : Int) ≤ x.toInt ∧ x.toInt ≤ 16
                  · obtain ⟨j, hj1, hj7, rfl⟩ : ∃ j, 1 ≤ j ∧ j < 7 ∧ x = nI (j + 10) := by
                      refine ⟨x.toInt.toNat - 10, by omega, by omega, Int32.toInt_inj.mp ?_⟩
                      rw [nI_toInt (by omega)]
                      omega
                    have e10 : nI (j + 10) - 10 = nI j := by
                      have : ∀ j, j < 7 → nI (j + 10) - 10 = nI j := by decide
                      exact this j hj7
                    refine OK2.q0 hX hM V (r := wR w j) ?_ fun h1' H i1 i2 R => ?_
                    · rw [ex, if_neg (fun z => absurd (c1.mp z) (by omega)), if_neg (fun z => absurd (c2.mp z) (by omega)), e10, s_at zc_74 (by decide) hj7 (by decide), zbI_some, hX.2.2.2.2.2 j hj1 hj7]
                    · rw [em h1' H i1 i2, if_pos q, e10, if_pos (zin_nI hj7 (by decide)), nI_clamp (by omega), R.2.2.2.2.2 j hj1 hj7]
                  · refine OK2.q0 hX hM V (r := -9) ?_ fun h1' H i1 i2 R => ?_
                    · rw [ex]
                      by_cases q1 : x < 11
                      · rw [if_pos q1]
                      · rw [if_neg q1, if_pos (c2.mpr ?_)]
                        have : ¬ x.toInt < 11 := fun z => q1 (c1.mpr z)
                        omega
                    · rw [em h1' H i1 i2, if_neg q]
theorem ok_personOf (hX : XP h w) (hM : MP h w) (V : WV w) {x y : Int32} : OK2 X m_X_personOf m_M_personOf [.int x, .int y] h := by
  have h6 : tn (wt w) ≤ 6 := V.1.1.1
  have RX : HR h 2 (wt w) := hX.1.1
  by_cases hx : rg x (tn (wt w))
  · obtain ⟨p, hp, rfl⟩ := hx
    by_cases h0 : y = 0
    · exact OK2.q0 hX hM V (by rw [e_X_personOf, s_has1 hH_2 RX h6 hp, zbI_some, if_neg (by decide), if_pos h0, e_H_kindOf hH_2, s_kindOf hH_2 RX h6 hp, zbI_some, zbI_some]) fun h1' H i1 i2 R => by rw [e_M_personOf, i1, i2, m_isOne1 (h := (H.1, H.2)) R.1.1 h6 hp, zbI_some, if_neg (by decide), m_inI (L := 0) (U := 6) (by decide) (by decide), zbI_some, if_pos (show (0 : Int) ≤ y.toInt ∧ y.toInt ≤ 6 by rw [h0]; decide), if_neg (by decide), if_pos h0, if_pos (zin_nI (n := 7) (by omega) (by decide)), nI_clamp (by omega), (R.1.1.2 p hp).1]
    by_cases h1 : y = 1
    · exact OK2.q0 hX hM V (by rw [e_X_personOf, s_has1 hH_2 RX h6 hp, zbI_some, if_neg (by decide), if_neg h0, if_pos h1, e_H_figureOf hH_2, s_figOf hH_2 RX h6 hp, zbI_some, zbI_some]) fun h1' H i1 i2 R => by rw [e_M_personOf, i1, i2, m_isOne1 (h := (H.1, H.2)) R.1.1 h6 hp, zbI_some, if_neg (by decide), m_inI (L := 0) (U := 6) (by decide) (by decide), zbI_some, if_pos (show (0 : Int) ≤ y.toInt ∧ y.toInt ≤ 6 by rw [h1]; decide), if_neg (by decide), if_neg h0, if_pos h1, if_pos (zin_nI (n := 7) (by omega) (by decide)), nI_clamp (by omega), (R.1.1.2 p hp).2.1]
    by_cases h2 : y = 2
    · exact OK2.q0 hX hM V (by rw [e_X_personOf, s_has1 hH_2 RX h6 hp, zbI_some, if_neg (by decide), if_neg h0, if_neg h1, if_pos h2, e_H_cellOf hH_2, s_celOf hH_2 RX h6 hp, zbI_some, zbI_some]) fun h1' H i1 i2 R => by rw [e_M_personOf, i1, i2, m_isOne1 (h := (H.1, H.2)) R.1.1 h6 hp, zbI_some, if_neg (by decide), m_inI (L := 0) (U := 6) (by decide) (by decide), zbI_some, if_pos (show (0 : Int) ≤ y.toInt ∧ y.toInt ≤ 6 by rw [h2]; decide), if_neg (by decide), if_neg h0, if_neg h1, if_pos h2, if_pos (zin_nI (n := 7) (by omega) (by decide)), nI_clamp (by omega), (R.1.1.2 p hp).2.2.1]
    by_cases h3 : y = 3
    · exact OK2.q0 hX hM V (by rw [e_X_personOf, s_has1 hH_2 RX h6 hp, zbI_some, if_neg (by decide), if_neg h0, if_neg h1, if_neg h2, if_pos h3, e_H_facesOf hH_2, s_facOf hH_2 RX h6 hp, zbI_some, zbI_some]) fun h1' H i1 i2 R => by rw [e_M_personOf, i1, i2, m_isOne1 (h := (H.1, H.2)) R.1.1 h6 hp, zbI_some, if_neg (by decide), m_inI (L := 0) (U := 6) (by decide) (by decide), zbI_some, if_pos (show (0 : Int) ≤ y.toInt ∧ y.toInt ≤ 6 by rw [h3]; decide), if_neg (by decide), if_neg h0, if_neg h1, if_neg h2, if_pos h3, if_pos (zin_nI (n := 7) (by omega) (by decide)), nI_clamp (by omega), (R.1.1.2 p hp).2.2.2.1]
    by_cases h4 : y = 4
    · exact OK2.q0 hX hM V (by rw [e_X_personOf, s_has1 hH_2 RX h6 hp, zbI_some, if_neg (by decide), if_neg h0, if_neg h1, if_neg h2, if_neg h3, if_pos h4, e_H_startsOf hH_2, s_staOf hH_2 RX h6 hp, zbI_some, zbI_some]) fun h1' H i1 i2 R => by rw [e_M_personOf, i1, i2, m_isOne1 (h := (H.1, H.2)) R.1.1 h6 hp, zbI_some, if_neg (by decide), m_inI (L := 0) (U := 6) (by decide) (by decide), zbI_some, if_pos (show (0 : Int) ≤ y.toInt ∧ y.toInt ≤ 6 by rw [h4]; decide), if_neg (by decide), if_neg h0, if_neg h1, if_neg h2, if_neg h3, if_pos h4, if_pos (zin_nI (n := 7) (by omega) (by decide)), nI_clamp (by omega), (R.1.1.2 p hp).2.2.2.2]
    by_cases h5 : y = 5
    · exact OK2.q0 hX hM V (by rw [e_X_personOf, s_has1 hH_2 RX h6 hp, zbI_some, if_neg (by decide), if_neg h0, if_neg h1, if_neg h2, if_neg h3, if_neg h4, if_pos h5, s_reachOf hH_2 RX h6 hp, zbI_some]) fun h1' H i1 i2 R => by rw [e_M_personOf, i1, i2, m_isOne1 (h := (H.1, H.2)) R.1.1 h6 hp, zbI_some, if_neg (by decide), m_inI (L := 0) (U := 6) (by decide) (by decide), zbI_some, if_pos (show (0 : Int) ≤ y.toInt ∧ y.toInt ≤ 6 by rw [h5]; decide), if_neg (by decide), if_neg h0, if_neg h1, if_neg h2, if_neg h3, if_neg h4, if_pos h5, m_reachOf (h := (H.1, H.2)) R.1.1 h6 hp, zbI_some]
    by_cases h6' : y = 6
    · exact OK2.q0 hX hM V (by rw [e_X_personOf, s_has1 hH_2 RX h6 hp, zbI_some, if_neg (by decide), if_neg h0, if_neg h1, if_neg h2, if_neg h3, if_neg h4, if_neg h5, if_pos h6', s_depthOf hH_2 RX h6 hp, zbI_some]) fun h1' H i1 i2 R => by rw [e_M_personOf, i1, i2, m_isOne1 (h := (H.1, H.2)) R.1.1 h6 hp, zbI_some, if_neg (by decide), m_inI (L := 0) (U := 6) (by decide) (by decide), zbI_some, if_pos (show (0 : Int) ≤ y.toInt ∧ y.toInt ≤ 6 by rw [h6']; decide), if_neg (by decide), if_neg h0, if_neg h1, if_neg h2, if_neg h3, if_neg h4, if_neg h5, m_depthOf (h := (H.1, H.2)) R.1.1 h6 hp, zbI_some]
    have hy : ¬ ((0 : Int) ≤ y.toInt ∧ y.toInt ≤ 6) := fun z => by
      obtain ⟨j, hj, rfl⟩ := (rg_of (x := y) (n := 7) (by decide)).mpr ⟨z.1, by omega⟩
      have : j = 0 ∨ j = 1 ∨ j = 2 ∨ j = 3 ∨ j = 4 ∨ j = 5 ∨ j = 6 := by omega
      rcases this with rfl | rfl | rfl | rfl | rfl | rfl | rfl
      · exact h0 rfl
      · exact h1 rfl
      · exact h2 rfl
      · exact h3 rfl
      · exact h4 rfl
      · exact h5 rfl
      · exact h6' rfl
    exact OK2.no (x := -2) 2 hX hM V (by decide) (by decide) (by decide) (by rw [e_X_personOf, s_has1 hH_2 RX h6 hp, zbI_some, if_neg (by decide), if_neg h0, if_neg h1, if_neg h2, if_neg h3, if_neg h4, if_neg h5, if_neg h6', zrx2]) fun h1' H i1 i2 R => ⟨H, by rw [e_M_personOf, i1, i2, m_isOne1 (h := (H.1, H.2)) R.1.1 h6 hp, zbI_some, if_neg (by decide), m_inI (L := 0) (U := 6) (by decide) (by decide), zbI_some, if_neg hy, if_pos rfl, m_isOne1 (h := (H.1, H.2)) R.1.1 h6 hp, zbI_some, if_neg (show ¬ (1 : Int32) = 0 by decide), zrm2], R, FM.rf⟩
  · exact OK2.no (x := -1) 1 hX hM V (by decide) (by decide) (by decide) (by rw [e_X_personOf, s_has0 hH_2 RX h6 hx, zbI_some, if_pos rfl, zrx1]) fun h1' H i1 i2 R => ⟨H, by rw [e_M_personOf, i1, i2, m_isOne0 (h := (H.1, H.2)) R.1.1 h6 hx, zbI_some, if_pos rfl, m_isOne0 (h := (H.1, H.2)) R.1.1 h6 hx, zbI_some, if_pos rfl, zrm1], R, FM.rf⟩
end z35
