/-! turns, stands, nights -/
section z46
variable {X : zX} {h : zH} {w : zW} {t : zT}
/-- the hill is changed behind what was kept -/
theorem xp_hl {x : zN} (R : XP h w) {h' : zH} (n : HN h' 2 x) (e : ∀ b j, b < 123 → (b < 2 ∨ 7 < b) → h'.1 b j = h.1 b j) : XP h' (uN w x) := XP.uN (h' := h') R n fun b j h1 h2 _ => e b j h1 h2
theorem mp_hl {x : zN} (R : MP h w) {h' : zH} (n : MR h' x.1) (n1 : h'.1 123 6 = nI x.2) (f : FS pN h h') : MP h' (uN w x) := MP.uN (h' := h') R n n1 fun b j hb hS => f.2 b j fun z => hS (by unfold pN at z; unfold pS; omega)
theorem pN_m {b j : Nat} (z : pN b j) : pMa b j := by unfold pN at z; unfold pMa; omega
theorem ok_turns (hX : XP h w) (hM : MP h w) (V : WV w) {x y : Int32} : OK2 X m_X_turns m_M_turns [.int x, .int y] h := by
  have h6 : tn (wt w) ≤ 6 := V.1.1.1
  by_cases hx : rg x (tn (wt w))
  · obtain ⟨p, hp, rfl⟩ := hx
    by_cases hy : rg y 4
    · have hy' := hy
      rw [rg_of (by decide)] at hy'
      refine OK2.go (r := tD (wt w) p) (w' := uN (kp w) (wD (wt w) p y, wn w)) hM V ((wv_kp V).uN ⟨V.1.1.wD hy, V.1.2⟩) ?_ fun h1 H i1 i2 R => ?_
      · obtain ⟨h1, a1, a2, a3, a4⟩ := s_keep (X := X) hX V
        refine ⟨(zup h1.1 6 p y, h1.2), ?_, xp_hl a2 ⟨HR.uD (a := 2) a4, ?_⟩ ?_, a3.tr (FM.up (by unfold pXa; decide))⟩
        · rw [e_X_turns, s_has1 hH_2 hX.1.1 h6 hp, zbI_some, if_neg (show ¬ (1 : Int32) = 0 by decide), s_isWay.1 hy, zbI_some, if_neg (show ¬ (1 : Int32) = 0 by decide), a1, zbV_some, e_H_facesOf hH_2, s_facOf (a := 2) hH_2 a4 h6 hp, zbI_some, zbI_some, s_face hH_2 (by omega), zbV_some]
        · dsimp only
          rw [zup_nc (by decide)]
          exact a2.1.2
        · intro b j hb h2
          dsimp only
          rw [zup_nc (by omega)]
      · obtain ⟨h2, a1, a2, a3⟩ := m_keepTurn (X := X) R V
        refine ⟨(zup h2.1 127 p y, h2.2), ?_, mp_hl a2 (MR.uD a2.1.1) ?_ ?_, a3.tr (FM.up (by unfold pMa; decide))⟩
        · rw [e_M_turns, i1, i2, m_isOne1 (h := (H.1, H.2)) R.1.1 h6 hp, zbI_some, if_neg (show ¬ (1 : Int32) = 0 by decide), m_inI (L := 0) (U := 3) (by decide) (by decide), zbI_some, if_pos (show (0 : Int) ≤ y.toInt ∧ y.toInt ≤ 3 by omega), if_neg (show ¬ (1 : Int32) = 0 by decide), a1, zbV_some, if_pos (zin_nI (by omega) (by decide)), if_pos (zin_nI (by omega) (by decide)), nI_clamp (by omega), (a2.1.1.2 p hp).2.2.2.1]
          rfl
        · dsimp only
          rw [zup_nc (by decide)]
          exact a2.1.2
        · exact FS.up (by unfold pN; omega)
    · have hy' := hy
      rw [rg_of (by decide)] at hy'
      refine OK2.no (x := -1) 1 hX hM V (by decide) (by decide) (by decide) ?_ fun h1' H i1 i2 R => ⟨H, ?_, R, FM.rf⟩
      · rw [e_X_turns, s_has1 hH_2 hX.1.1 h6 hp, zbI_some, if_neg (show ¬ (1 : Int32) = 0 by decide), s_isWay.2 hy, zbI_some, if_pos (show (0 : Int32) = 0 from rfl), zrx1]
      · rw [e_M_turns, i1, i2, m_isOne1 (h := (H.1, H.2)) R.1.1 h6 hp, zbI_some, if_neg (show ¬ (1 : Int32) = 0 by decide), m_inI (L := 0) (U := 3) (by decide) (by decide), zbI_some, if_neg (show ¬ ((0 : Int) ≤ y.toInt ∧ y.toInt ≤ 3) by omega), if_pos (show (0 : Int32) = 0 from rfl), zrm1]
  · refine OK2.no (x := -1) 1 hX hM V (by decide) (by decide) (by decide) ?_ fun h1' H i1 i2 R => ⟨H, ?_, R, FM.rf⟩
    · rw [e_X_turns, s_has0 hH_2 hX.1.1 h6 hx, zbI_some, if_pos (show (0 : Int32) = 0 from rfl), zrx1]
    · rw [e_M_turns, i1, i2, m_isOne0 (h := (H.1, H.2)) R.1.1 h6 hx, zbI_some, if_pos (show (0 : Int32) = 0 from rfl), zrm1]
theorem ok_stands (hX : XP h w) (hM : MP h w) (V : WV w) {x y : Int32} : OK2 X m_X_stands m_M_stands [.int x, .int y] h := by
  have h6 : tn (wt w) ≤ 6 := V.1.1.1
  by_cases hx : rg x (tn (wt w))
  · obtain ⟨p, hp, rfl⟩ := hx
    by_cases hy : rg y 36
    · by_cases hf : who (tn (wt w)) (tC (wt w)) y = -9
      · refine OK2.go (r := tC (wt w) p) (w' := uN (kp w) (wC (wt w) p y, wn w)) hM V ((wv_kp V).uN ⟨V.1.1.wC hy, V.1.2⟩) ?_ fun h1 H i1 i2 R => ?_
        · obtain ⟨h1, a1, a2, a3, a4⟩ := s_keep (X := X) hX V
          refine ⟨(zup h1.1 5 p y, h1.2), ?_, xp_hl a2 ⟨HR.uC (a := 2) a4, ?_⟩ ?_, a3.tr (FM.up (by unfold pXa; decide))⟩
          · rw [e_X_stands, s_has1 hH_2 hX.1.1 h6 hp, zbI_some, if_neg (show ¬ (1 : Int32) = 0 by decide), s_isCell.1 hy, zbI_some, if_neg (show ¬ (1 : Int32) = 0 by decide), s_isFree hH_2 (t := wt w) hX.1.1 h6, zbI_some, if_pos hf, if_neg (show ¬ (1 : Int32) = 0 by decide), a1, zbV_some, e_H_cellOf hH_2, s_celOf (a := 2) hH_2 a4 h6 hp, zbI_some, zbI_some, s_place hH_2 (by omega), zbV_some]
          · dsimp only
            rw [zup_nc (by decide)]
            exact a2.1.2
          · intro b j hb h2
            dsimp only
            rw [zup_nc (by omega)]
        · obtain ⟨h2, a1, a2, a3⟩ := m_keepTurn (X := X) R V
          refine ⟨(zup h2.1 126 p y, h2.2), ?_, mp_hl a2 (MR.uC a2.1.1) ?_ ?_, a3.tr (FM.up (by unfold pMa; decide))⟩
          · rw [e_M_stands, i1, i2, m_isOne1 (h := (H.1, H.2)) R.1.1 h6 hp, zbI_some, if_neg (show ¬ (1 : Int32) = 0 by decide), m_isCell1 hy, zbI_some, if_neg (show ¬ (1 : Int32) = 0 by decide), m_oneIn (h := (H.1, H.2)) R.1.1 h6, zbI_some, hf, if_pos (show (-9 : Int32) < 0 by decide), if_pos (show (0 : Int32) ≤ 0 by decide), a1, zbV_some, if_pos (zin_nI (by omega) (by decide)), if_pos (zin_nI (by omega) (by decide)), nI_clamp (by omega), (a2.1.1.2 p hp).2.2.1]
            rfl
          · dsimp only
            rw [zup_nc (by decide)]
            exact a2.1.2
          · exact FS.up (by unfold pN; omega)
      · have hf' : ¬ who (tn (wt w)) (tC (wt w)) y < 0 := fun z => hf ((who_neg (by omega)).mp z)
        refine OK2.no (x := -3) 3 hX hM V (by decide) (by decide) (by decide) ?_ fun h1' H i1 i2 R => ⟨H, ?_, R, FM.rf⟩
        · rw [e_X_stands, s_has1 hH_2 hX.1.1 h6 hp, zbI_some, if_neg (show ¬ (1 : Int32) = 0 by decide), s_isCell.1 hy, zbI_some, if_neg (show ¬ (1 : Int32) = 0 by decide), s_isFree hH_2 (t := wt w) hX.1.1 h6, zbI_some, if_neg hf, if_pos (show (0 : Int32) = 0 from rfl), zrx3]
        · rw [e_M_stands, i1, i2, m_isOne1 (h := (H.1, H.2)) R.1.1 h6 hp, zbI_some, if_neg (show ¬ (1 : Int32) = 0 by decide), m_isCell1 hy, zbI_some, if_neg (show ¬ (1 : Int32) = 0 by decide), m_oneIn (h := (H.1, H.2)) R.1.1 h6, zbI_some, if_neg hf', if_neg (show ¬ (0 : Int32) ≤ -3 by decide), zrm3]
    · refine OK2.no (x := -1) 1 hX hM V (by decide) (by decide) (by decide) ?_ fun h1' H i1 i2 R => ⟨H, ?_, R, FM.rf⟩
      · rw [e_X_stands, s_has1 hH_2 hX.1.1 h6 hp, zbI_some, if_neg (show ¬ (1 : Int32) = 0 by decide), s_isCell.2 hy, zbI_some, if_pos (show (0 : Int32) = 0 from rfl), zrx1]
      · rw [e_M_stands, i1, i2, m_isOne1 (h := (H.1, H.2)) R.1.1 h6 hp, zbI_some, if_neg (show ¬ (1 : Int32) = 0 by decide), m_isCell0 hy, zbI_some, if_pos (show (0 : Int32) = 0 from rfl), zrm1]
  · refine OK2.no (x := -1) 1 hX hM V (by decide) (by decide) (by decide) ?_ fun h1' H i1 i2 R => ⟨H, ?_, R, FM.rf⟩
    · rw [e_X_stands, s_has0 hH_2 hX.1.1 h6 hx, zbI_some, if_pos (show (0 : Int32) = 0 from rfl), zrx1]
    · rw [e_M_stands, i1, i2, m_isOne0 (h := (H.1, H.2)) R.1.1 h6 hx, zbI_some, if_pos (show (0 : Int32) = 0 from rfl), zrm1]
theorem n999 : ∀ n, n < 1000 → ∀ k, k < 61 → (999 < nI n + nI k ↔ 999 < n + k) ∧ (nI n + nI k ≤ 999 ↔ n + k ≤ 999) := by
  intro n hn k hk
  rw [nI_add]
  exact ⟨by rw [show (999 : Int32) = nI 999 from rfl, lt_nI (by decide), nI_toInt (by omega)]; omega, by rw [show (999 : Int32) = nI 999 from rfl, nI_le' (by decide), nI_toInt (by omega)]; omega⟩
theorem ok_nights (hX : XP h w) (hM : MP h w) (V : WV w) {x : Int32} : OK2 X m_X_nights m_M_nights [.int x] h := by
  have h6 : tn (wt w) ≤ 6 := V.1.1.1
  have hw : wn w ≤ 999 := V.1.2
  have hXn : h.1 2 6 = nI (wn w) := hX.1.2
  by_cases h1 : 1 ≤ x
  · have h0 : (0 : Int32) ≤ x := by
      rw [Int32.le_iff_toInt_le] at h1 ⊢
      have e : (0 : Int32).toInt = 0 := by decide
      have e1 : (1 : Int32).toInt = 1 := by decide
      omega
    by_cases hx : x ≤ 60
    · obtain ⟨n, hn, rfl⟩ := rg_le (n := 60) (by decide) h0 hx
      have a60 : ¬ 60 < nI n := fun z => absurd (Int32.lt_iff_toInt_lt.mp z) (by have := Int32.le_iff_toInt_le.mp hx; omega)
      by_cases hr : wn w + n ≤ 999
      · have V' := nts_V n (wt w) V.1.1
        refine OK2.go (r := sto (nts (wt w) n)) (w' := uN (kp w) (nts (wt w) n, wn w + n)) hM V ((wv_kp V).uN ⟨V'.1, hr⟩) ?_ fun h1' H i1 i2 R => ?_
        · obtain ⟨h2, a1, a2, a3, a4⟩ := s_keep (X := X) hX V
          obtain ⟨h3, b1, b2, b3, b4⟩ := s_pass (X := X) hH_2 a4 V.1.1 (e := n) (by omega)
          refine ⟨h3, ?_, xp_hl a2 ⟨b2, ?_⟩ fun b j _ hb => b4.2 b j (by omega), a3.tr (b4.fm fun b j _ _ => by unfold pXa; omega)⟩
          · rw [e_X_nights, if_pos h1, e_H_hasRoomFor hH_2, if_neg a60, hXn, if_neg (show ¬ 999 < nI (wn w) + nI n from fun z => absurd ((n999 (wn w) (by omega) n hn).1.mp z) (by omega)), zbI_some, if_neg (show ¬ (1 : Int32) = 0 by decide), a1, zbV_some, b1, zbV_some, s_startsTogether hH_2 b2 V'.1.1, zbI_some]
          · rw [b3, a2.1.2]
            exact nI_add _ _
        · obtain ⟨h2, a1, a2, a3⟩ := m_keepTurn (X := X) R V
          obtain ⟨h3, b1, b2, b3, b4⟩ := m_goNights (X := X) a2.1.1 V.1.1 (e := n) (by omega)
          refine ⟨h3, ?_, mp_hl a2 b2 ?_ b4, a3.tr (b4.fm.mono fun b j z => pN_m z)⟩
          · rw [e_M_nights, i1, i2, m_wrongN, zbI_some, if_pos h1, if_pos hx, if_pos (show (0 : Int32) = 0 from rfl), R.1.2, if_pos ((n999 (wn w) (by omega) n hn).2.mpr hr), if_pos (show (0 : Int32) ≤ 0 by decide), a1, zbV_some, b1, zbV_some, m_allOfStarts b2 V'.1.1, zbI_some]
            rfl
          · rw [b3, a2.1.2]
            exact nI_add _ _
      · refine OK2.no (x := -6) 6 hX hM V (by decide) (by decide) (by decide) ?_ fun h1' H i1 i2 R => ⟨H, ?_, R, FM.rf⟩
        · rw [e_X_nights, if_pos h1, e_H_hasRoomFor hH_2, if_neg a60, hXn, if_pos ((n999 (wn w) (by omega) n hn).1.mpr (by omega)), zbI_some, if_pos (show (0 : Int32) = 0 from rfl), zrx6]
        · rw [e_M_nights, i1, i2, m_wrongN, zbI_some, if_pos h1, if_pos hx, if_pos (show (0 : Int32) = 0 from rfl), R.1.2, if_neg (show ¬ nI (wn w) + nI n ≤ 999 from fun z => hr ((n999 (wn w) (by omega) n hn).2.mp z)), if_neg (show ¬ (0 : Int32) ≤ -6 by decide), zrm6]
    · have a60 : 60 < x := by
        rw [Int32.le_iff_toInt_le] at hx
        rw [Int32.lt_iff_toInt_lt]
        omega
      refine OK2.no (x := -6) 6 hX hM V (by decide) (by decide) (by decide) ?_ fun h1' H i1 i2 R => ⟨H, ?_, R, FM.rf⟩
      · rw [e_X_nights, if_pos h1, e_H_hasRoomFor hH_2, if_pos a60, zbI_some, if_pos (show (0 : Int32) = 0 from rfl), zrx6]
      · rw [e_M_nights, i1, i2, m_wrongN, zbI_some, if_pos h1, if_neg hx, if_neg (show ¬ (-6 : Int32) = 0 by decide), if_neg (show ¬ (0 : Int32) ≤ -6 by decide), zrm6]
  · refine OK2.no (x := -4) 4 hX hM V (by decide) (by decide) (by decide) ?_ fun h1' H i1 i2 R => ⟨H, ?_, R, FM.rf⟩
    · rw [e_X_nights, if_neg h1, zrx4]
    · rw [e_M_nights, i1, i2, m_wrongN, zbI_some, if_neg h1, if_neg (show ¬ (-4 : Int32) = 0 by decide), if_neg (show ¬ (0 : Int32) ≤ -4 by decide), zrm4]
end z46
