/-! a newcomer -/
def jn (t : zT) (k f c d : Int32) : zT := (tn t + 1, zua (tK t) (tn t) k, zua (tF t) (tn t) f, zua (tC t) (tn t) c, zua (tD t) (tn t) d, zua (tS t) (tn t) 0)
theorem jn_V {t : zT} (V : tV t) (hn : tn t < 6) {k f c d : Int32} (hk : rg k 6) (hf : rg f 10) (hc : rg c 36) (hd : rg d 4) : tV (jn t k f c d) := by
  refine ⟨hn, fun p hp => ?_⟩
  by_cases q : p = tn t
  · subst q
    refine ⟨?_, ?_, ?_, ?_, ?_⟩ <;> first
      | (show rg (zua _ _ _ _) _; unfold zua; rw [if_pos rfl]; assumption)
      | (show rg (zua _ _ _ _) _; unfold zua; rw [if_pos rfl]; exact ⟨0, by decide, rfl⟩)
  · have hp' : p < tn t := by have : p < tn t + 1 := hp; omega
    obtain ⟨r1, r2, r3, r4, r5⟩ := V.2 p hp'
    refine ⟨?_, ?_, ?_, ?_, ?_⟩ <;> (show rg (zua _ _ _ _) _; unfold zua; rw [if_neg q]; assumption)
theorem zup_zua' {I : Nat → Nat → Int32} {b n q : Nat} {v : Int32} : zup I b n v b q = zua (I b) n v q := by
  unfold zup zua
  by_cases e : q = n
  · rw [if_pos ⟨rfl, e⟩, if_pos e]
  · rw [if_neg (fun z => e z.2), if_neg e]
theorem RP.jn {I J : Nat → Nat → Int32} {z : Int32} {k f c d s : Nat} {t : zT} {x1 x2 x3 x4 : Int32} (R : RP I z k f c d s t) (ek : ∀ q, J k q = zua (I k) (tn t) x1 q) (ef : ∀ q, J f q = zua (I f) (tn t) x2 q) (ec : ∀ q, J c q = zua (I c) (tn t) x3 q) (ed : ∀ q, J d q = zua (I d) (tn t) x4 q) (es : ∀ q, J s q = zua (I s) (tn t) 0 q) : RP J (nI (tn t + 1)) k f c d s (jn t x1 x2 x3 x4) := by
  refine ⟨rfl, fun p hp => ?_⟩
  rw [ek, ef, ec, ed, es]
  show zua _ _ _ _ = zua _ _ _ _ ∧ zua _ _ _ _ = zua _ _ _ _ ∧ zua _ _ _ _ = zua _ _ _ _ ∧ zua _ _ _ _ = zua _ _ _ _ ∧ zua _ _ _ _ = zua _ _ _ _
  unfold zua
  by_cases q : p = tn t
  · simp only [if_pos q, and_self]
  · have hp' : p < tn t := by have : p < tn t + 1 := hp; omega
    simp only [if_neg q]
    exact R.2 p hp'
section z48
variable {X : zX} {h h0 : zH} {w : zW} {t : zT} {a : Nat}
theorem s_join (H : isH a) (R : HR h a t) (hn : tn t < 6) {k f c d : Int32} : ∃ h', zcf X m_H_join [.ref a, .int k, .int f, .int c, .int d] h = some (some (.int (nI (tn t))), h') ∧ HR h' a (jn t k f c d) ∧ h'.1 a 6 = h.1 a 6 ∧ Fr a (a + 5) h h' := by
  have e := R.1
  refine ⟨(zup (zup (zup (zup (zup (zup h.1 (a + 1) (tn t) k) (a + 2) (tn t) f) (a + 3) (tn t) c) (a + 4) (tn t) d) (a + 5) (tn t) 0) a 5 (nI (tn t + 1)), h.2), ?_, ?_, ?_, rfl, ?_⟩
  · rw [e_H_join H, e, if_pos (show nI (tn t) < (6 : Int32) from nI_lt (b := 6) hn (by omega)), s_put (b := a + 1) H.k0 (by omega) hn (by decide), zbV_some, s_put (b := a + 2) H.k1 (by omega) hn (by decide), zbV_some, s_put (b := a + 3) H.k2 (by omega) hn (by decide), zbV_some, s_put (b := a + 4) H.k3 (by omega) hn (by decide), zbV_some, s_put (b := a + 5) H.k4 (by omega) hn (by decide), zbV_some]
    dsimp only
    rw [zup_nc (b := a) (a := a + 5) (by omega), zup_nc (b := a) (a := a + 4) (by omega), zup_nc (b := a) (a := a + 3) (by omega), zup_nc (b := a) (a := a + 2) (by omega), zup_nc (b := a) (a := a + 1) (by omega), e, nI_add1]
  · unfold HR
    dsimp only
    rw [zup_eq]
    refine RP.jn (I := h.1) R (fun q => ?_) (fun q => ?_) (fun q => ?_) (fun q => ?_) (fun q => ?_)
    · rw [zup_nc (by omega), zup_nc (by omega), zup_nc (by omega), zup_nc (by omega), zup_nc (by omega), zup_zua']
    · rw [zup_nc (by omega), zup_nc (by omega), zup_nc (by omega), zup_nc (by omega), zup_zua']
      unfold zua
      rw [zup_nc (by omega)]
    · rw [zup_nc (by omega), zup_nc (by omega), zup_nc (by omega), zup_zua']
      unfold zua
      rw [zup_nc (by omega), zup_nc (by omega)]
    · rw [zup_nc (by omega), zup_nc (by omega), zup_zua']
      unfold zua
      rw [zup_nc (by omega), zup_nc (by omega), zup_nc (by omega)]
    · rw [zup_nc (by omega), zup_zua']
      unfold zua
      rw [zup_nc (by omega), zup_nc (by omega), zup_nc (by omega), zup_nc (by omega)]
  · dsimp only
    rw [zup_ns (by decide), zup_nc (by omega), zup_nc (by omega), zup_nc (by omega), zup_nc (by omega), zup_nc (by omega)]
  · intro b j hb
    dsimp only
    rw [zup_nc (by omega), zup_nc (by omega), zup_nc (by omega), zup_nc (by omega), zup_nc (by omega), zup_nc (by omega)]
theorem m_oneComes (R : MR h t) (hn : tn t < 6) {k f c d : Int32} : ∃ h', zcf X m_M_oneComes [.ref 123, .int k, .int f, .int c, .int d] h = some (none, h') ∧ MR h' (jn t k f c d) ∧ h'.1 123 6 = h.1 123 6 ∧ ∀ b j, ¬ (124 ≤ b ∧ b ≤ 128) → ¬ (b = 123 ∧ j = 0) → h'.1 b j = h.1 b j := by
  have e := R.1
  refine ⟨(zup (zup (zup (zup (zup (zup h.1 124 (tn t) k) 125 (tn t) f) 126 (tn t) c) 127 (tn t) d) 128 (tn t) 0) 123 0 (nI (tn t + 1)), h.2), ?_, ?_, ?_, ?_⟩
  · rw [e_M_oneComes]
    have z1 : ∀ (I : Nat → Nat → Int32) (j : Nat) (v : Int32), zup I 124 j v 123 0 = I 123 0 := fun I j v => zup_nc (by decide)
    have z2 : ∀ (I : Nat → Nat → Int32) (j : Nat) (v : Int32), zup I 125 j v 123 0 = I 123 0 := fun I j v => zup_nc (by decide)
    have z3 : ∀ (I : Nat → Nat → Int32) (j : Nat) (v : Int32), zup I 126 j v 123 0 = I 123 0 := fun I j v => zup_nc (by decide)
    have z4 : ∀ (I : Nat → Nat → Int32) (j : Nat) (v : Int32), zup I 127 j v 123 0 = I 123 0 := fun I j v => zup_nc (by decide)
    have z5 : ∀ (I : Nat → Nat → Int32) (j : Nat) (v : Int32), zup I 128 j v 123 0 = I 123 0 := fun I j v => zup_nc (by decide)
    simp only [z1, z2, z3, z4, z5, e, nI_add1, nI_clamp (show tn t < 2 ^ 31 by omega), zin_nI (show tn t < 7 by omega) (show 7 < 2 ^ 31 by decide), if_true]
  · unfold MR
    dsimp only
    rw [zup_eq]
    refine RP.jn (I := h.1) R (fun q => ?_) (fun q => ?_) (fun q => ?_) (fun q => ?_) (fun q => ?_)
    · rw [zup_nc (by omega), zup_nc (by omega), zup_nc (by omega), zup_nc (by omega), zup_nc (by omega), zup_zua']
    · rw [zup_nc (by omega), zup_nc (by omega), zup_nc (by omega), zup_nc (by omega), zup_zua']
      unfold zua
      rw [zup_nc (by omega)]
    · rw [zup_nc (by omega), zup_nc (by omega), zup_nc (by omega), zup_zua']
      unfold zua
      rw [zup_nc (by omega), zup_nc (by omega)]
    · rw [zup_nc (by omega), zup_nc (by omega), zup_zua']
      unfold zua
      rw [zup_nc (by omega), zup_nc (by omega), zup_nc (by omega)]
    · rw [zup_nc (by omega), zup_zua']
      unfold zua
      rw [zup_nc (by omega), zup_nc (by omega), zup_nc (by omega), zup_nc (by omega)]
  · dsimp only
    rw [zup_ns (by decide), zup_nc (by omega), zup_nc (by omega), zup_nc (by omega), zup_nc (by omega), zup_nc (by omega)]
  · intro b j h1 h2
    dsimp only
    unfold zup
    rw [if_neg h2, if_neg (by omega), if_neg (by omega), if_neg (by omega), if_neg (by omega), if_neg (by omega)]
theorem ok_person (hX : XP h w) (hM : MP h w) (V : WV w) {k f c d : Int32} : OK2 X m_X_person m_M_person [.int k, .int f, .int c, .int d] h := by
  have h6 : tn (wt w) ≤ 6 := V.1.1.1
  by_cases hk : rg k 6
  · have hk' := hk
    rw [rg_of (by decide)] at hk'
    by_cases h0 : 0 ≤ f
    · by_cases h9 : f ≤ 9
      · have hf : rg f 10 := rg_le (n := 9) (by decide) h0 h9
        have h10 : ¬ 10 ≤ f := fun z => by
          rw [Int32.le_iff_toInt_le] at z h9
          have e : (10 : Int32).toInt = 10 := by decide
          have e1 : (9 : Int32).toInt = 9 := by decide
          omega
        by_cases hn : tn (wt w) < 6
        · have hn6 : ¬ nI (tn (wt w)) = (6 : Int32) := fun z => absurd ((nI_eq (b := 6) (by omega) (by decide)).mp z) (by omega)
          have hl6 : nI (tn (wt w)) < (6 : Int32) := nI_lt (b := 6) hn (by omega)
          by_cases hc : rg c 36
          · by_cases hd : rg d 4
            · have hd' := hd
              rw [rg_of (by decide)] at hd'
              by_cases hf9 : who (tn (wt w)) (tC (wt w)) c = -9
              · refine OK2.go (r := nI (tn (wt w))) (w' := uN (uP w 0 (ws w)) (jn (wt w) k f c d, wn w)) hM V ((wv_frg V).uN ⟨jn_V V.1.1 hn hk hf hc hd, V.1.2⟩) ?_ fun h1 H i1 i2 R => ?_
                · have hX1 := xp_frg hX
                  obtain ⟨h1, a1, a2, a3, a4⟩ := s_join (X := X) (k := k) (f := f) (c := c) (d := d) hH_2 hX1.1.1 hn
                  refine ⟨h1, ?_, xp_hl hX1 ⟨a2, a3.trans hX1.1.2⟩ fun b j _ hb => a4.2 b j (by omega), FM.tr (h1 := (zup h.1 21 1 0, h.2)) (FM.up (by unfold pXa; decide)) (a4.fm fun b j _ _ => by unfold pXa; omega)⟩
                  rw [e_X_person, s_isKind.1 hk, zbI_some, if_neg (show ¬ (1 : Int32) = 0 by decide), if_pos h0, if_neg h10, hX.1.1.1]
                  rw [show tn w.1.1 = tn (wt w) from rfl, if_pos hl6, s_isCell.1 hc, zbI_some, if_neg (show ¬ (1 : Int32) = 0 by decide), s_isWay.1 hd, zbI_some, if_neg (show ¬ (1 : Int32) = 0 by decide), s_isFree hH_2 (t := wt w) hX.1.1 h6, zbI_some, if_pos hf9, if_neg (show ¬ (1 : Int32) = 0 by decide), e_P_forget, zbV_some, a1, zbI_some]
                  rfl
                · obtain ⟨h2, a1, a2, a3, a4⟩ := m_oneComes (X := X) (k := k) (f := f) (c := c) (d := d) R.1.1 hn
                  have R1 : MP h2 (uN w (jn (wt w) k f c d, wn w)) := R.uN a2 (a3.trans R.1.2) fun b j hb hS => a4 b j (fun z => hS (by unfold pS; omega)) (fun z => hS (by unfold pS; omega))
                  refine ⟨(zup h2.1 123 27 0, h2.2), ?_, mp_frg R1, FM.tr (h1 := h2) (fun b j hb => ?_) (FM.up (by unfold pMa; decide))⟩
                  · rw [e_M_person, i1, i2, m_inI (L := 0) (U := 5) (by decide) (by decide), zbI_some, if_pos (show (0 : Int) ≤ k.toInt ∧ k.toInt ≤ 5 by omega), if_neg (show ¬ (1 : Int32) = 0 by decide), m_wrongN, zbI_some, if_pos h0, if_pos h9, if_pos (show (0 : Int32) = 0 from rfl), R.1.1.1, if_neg hn6, if_pos (show (0 : Int32) = 0 from rfl), m_isCell1 hc, zbI_some, if_neg (show ¬ (1 : Int32) = 0 by decide), m_inI (L := 0) (U := 3) (by decide) (by decide), zbI_some, if_pos (show (0 : Int) ≤ d.toInt ∧ d.toInt ≤ 3 by omega), if_neg (show ¬ (1 : Int32) = 0 by decide), if_pos (show (0 : Int32) = 0 from rfl), m_oneIn (h := (H.1, H.2)) R.1.1 h6, zbI_some, hf9, if_pos (show (-9 : Int32) < 0 by decide), if_pos (show (0 : Int32) ≤ 0 by decide), a1, zbV_some, zup_ns (by decide), a2.1]
                    rw [show tn (jn (wt w) k f c d) = tn (wt w) + 1 from rfl, nI_sub1 (by omega)]
                    rfl
                  · unfold pMa at hb
                    exact a4 b j (by omega) (by omega)
              · have hf' : ¬ who (tn (wt w)) (tC (wt w)) c < 0 := fun z => hf9 ((who_neg (by omega)).mp z)
                refine OK2.no (x := -3) 3 hX hM V (by decide) (by decide) (by decide) ?_ fun h1' H i1 i2 R => ⟨H, ?_, R, FM.rf⟩
                · rw [e_X_person, s_isKind.1 hk, zbI_some, if_neg (show ¬ (1 : Int32) = 0 by decide), if_pos h0, if_neg h10, hX.1.1.1]
                  rw [show tn w.1.1 = tn (wt w) from rfl, if_pos hl6, s_isCell.1 hc, zbI_some, if_neg (show ¬ (1 : Int32) = 0 by decide), s_isWay.1 hd, zbI_some, if_neg (show ¬ (1 : Int32) = 0 by decide), s_isFree hH_2 (t := wt w) hX.1.1 h6, zbI_some, if_neg hf9, if_pos (show (0 : Int32) = 0 from rfl), zrx3]
                · rw [e_M_person, i1, i2, m_inI (L := 0) (U := 5) (by decide) (by decide), zbI_some, if_pos (show (0 : Int) ≤ k.toInt ∧ k.toInt ≤ 5 by omega), if_neg (show ¬ (1 : Int32) = 0 by decide), m_wrongN, zbI_some, if_pos h0, if_pos h9, if_pos (show (0 : Int32) = 0 from rfl), R.1.1.1, if_neg hn6, if_pos (show (0 : Int32) = 0 from rfl), m_isCell1 hc, zbI_some, if_neg (show ¬ (1 : Int32) = 0 by decide), m_inI (L := 0) (U := 3) (by decide) (by decide), zbI_some, if_pos (show (0 : Int) ≤ d.toInt ∧ d.toInt ≤ 3 by omega), if_neg (show ¬ (1 : Int32) = 0 by decide), if_pos (show (0 : Int32) = 0 from rfl), m_oneIn (h := (H.1, H.2)) R.1.1 h6, zbI_some, if_neg hf', if_neg (show ¬ (0 : Int32) ≤ -3 by decide), zrm3]
            · have hd' := hd
              rw [rg_of (by decide)] at hd'
              refine OK2.no (x := -1) 1 hX hM V (by decide) (by decide) (by decide) ?_ fun h1' H i1 i2 R => ⟨H, ?_, R, FM.rf⟩
              · rw [e_X_person, s_isKind.1 hk, zbI_some, if_neg (show ¬ (1 : Int32) = 0 by decide), if_pos h0, if_neg h10, hX.1.1.1]
                rw [show tn w.1.1 = tn (wt w) from rfl, if_pos hl6, s_isCell.1 hc, zbI_some, if_neg (show ¬ (1 : Int32) = 0 by decide), s_isWay.2 hd, zbI_some, if_pos (show (0 : Int32) = 0 from rfl), zrx1]
              · rw [e_M_person, i1, i2, m_inI (L := 0) (U := 5) (by decide) (by decide), zbI_some, if_pos (show (0 : Int) ≤ k.toInt ∧ k.toInt ≤ 5 by omega), if_neg (show ¬ (1 : Int32) = 0 by decide), m_wrongN, zbI_some, if_pos h0, if_pos h9, if_pos (show (0 : Int32) = 0 from rfl), R.1.1.1, if_neg hn6, if_pos (show (0 : Int32) = 0 from rfl), m_isCell1 hc, zbI_some, if_neg (show ¬ (1 : Int32) = 0 by decide), m_inI (L := 0) (U := 3) (by decide) (by decide), zbI_some, if_neg (show ¬ ((0 : Int) ≤ d.toInt ∧ d.toInt ≤ 3) by omega), if_pos (show (0 : Int32) = 0 from rfl), if_neg (show ¬ (-1 : Int32) = 0 by decide), if_neg (show ¬ (0 : Int32) ≤ -1 by decide), zrm1]
          · refine OK2.no (x := -1) 1 hX hM V (by decide) (by decide) (by decide) ?_ fun h1' H i1 i2 R => ⟨H, ?_, R, FM.rf⟩
            · rw [e_X_person, s_isKind.1 hk, zbI_some, if_neg (show ¬ (1 : Int32) = 0 by decide), if_pos h0, if_neg h10, hX.1.1.1]
              rw [show tn w.1.1 = tn (wt w) from rfl, if_pos hl6, s_isCell.2 hc, zbI_some, if_pos (show (0 : Int32) = 0 from rfl), zrx1]
            · rw [e_M_person, i1, i2, m_inI (L := 0) (U := 5) (by decide) (by decide), zbI_some, if_pos (show (0 : Int) ≤ k.toInt ∧ k.toInt ≤ 5 by omega), if_neg (show ¬ (1 : Int32) = 0 by decide), m_wrongN, zbI_some, if_pos h0, if_pos h9, if_pos (show (0 : Int32) = 0 from rfl), R.1.1.1, if_neg hn6, if_pos (show (0 : Int32) = 0 from rfl), m_isCell0 hc, zbI_some, if_pos (show (0 : Int32) = 0 from rfl), zrm1]
        · have hn6 : tn (wt w) = 6 := by omega
          have hl6 : ¬ nI (tn (wt w)) < (6 : Int32) := by rw [hn6]; decide
          refine OK2.no (x := -6) 6 hX hM V (by decide) (by decide) (by decide) ?_ fun h1' H i1 i2 R => ⟨H, ?_, R, FM.rf⟩
          · rw [e_X_person, s_isKind.1 hk, zbI_some, if_neg (show ¬ (1 : Int32) = 0 by decide), if_pos h0, if_neg h10, hX.1.1.1]
            rw [show tn w.1.1 = tn (wt w) from rfl, if_neg hl6, zrx6]
          · rw [e_M_person, i1, i2, m_inI (L := 0) (U := 5) (by decide) (by decide), zbI_some, if_pos (show (0 : Int) ≤ k.toInt ∧ k.toInt ≤ 5 by omega), if_neg (show ¬ (1 : Int32) = 0 by decide), m_wrongN, zbI_some, if_pos h0, if_pos h9, if_pos (show (0 : Int32) = 0 from rfl), R.1.1.1, hn6, if_pos (show nI 6 = (6 : Int32) from rfl), if_neg (show ¬ (-6 : Int32) = 0 by decide), if_neg (show ¬ (-6 : Int32) = 0 by decide), if_neg (show ¬ (0 : Int32) ≤ -6 by decide), zrm6]
      · have h10 : 10 ≤ f := by
          rw [Int32.le_iff_toInt_le] at h9 ⊢
          have e : (10 : Int32).toInt = 10 := by decide
          have e1 : (9 : Int32).toInt = 9 := by decide
          omega
        refine OK2.no (x := -6) 6 hX hM V (by decide) (by decide) (by decide) ?_ fun h1' H i1 i2 R => ⟨H, ?_, R, FM.rf⟩
        · rw [e_X_person, s_isKind.1 hk, zbI_some, if_neg (show ¬ (1 : Int32) = 0 by decide), if_pos h0, if_pos h10, zrx6]
        · rw [e_M_person, i1, i2, m_inI (L := 0) (U := 5) (by decide) (by decide), zbI_some, if_pos (show (0 : Int) ≤ k.toInt ∧ k.toInt ≤ 5 by omega), if_neg (show ¬ (1 : Int32) = 0 by decide), m_wrongN, zbI_some, if_pos h0, if_neg h9]
          simp only [if_neg (show ¬ (-6 : Int32) = 0 by decide), if_neg (show ¬ (0 : Int32) ≤ -6 by decide), zrm6]
    · refine OK2.no (x := -4) 4 hX hM V (by decide) (by decide) (by decide) ?_ fun h1' H i1 i2 R => ⟨H, ?_, R, FM.rf⟩
      · rw [e_X_person, s_isKind.1 hk, zbI_some, if_neg (show ¬ (1 : Int32) = 0 by decide), if_neg h0, zrx4]
      · rw [e_M_person, i1, i2, m_inI (L := 0) (U := 5) (by decide) (by decide), zbI_some, if_pos (show (0 : Int) ≤ k.toInt ∧ k.toInt ≤ 5 by omega), if_neg (show ¬ (1 : Int32) = 0 by decide), m_wrongN, zbI_some, if_neg h0]
        simp only [if_neg (show ¬ (-4 : Int32) = 0 by decide), if_neg (show ¬ (0 : Int32) ≤ -4 by decide), zrm4]
  · have hk' := hk
    rw [rg_of (by decide)] at hk'
    refine OK2.no (x := -2) 2 hX hM V (by decide) (by decide) (by decide) ?_ fun h1' H i1 i2 R => ⟨H, ?_, R, FM.rf⟩
    · rw [e_X_person, s_isKind.2 hk, zbI_some, if_pos (show (0 : Int32) = 0 from rfl), zrx2]
    · rw [e_M_person, i1, i2, m_inI (L := 0) (U := 5) (by decide) (by decide), zbI_some, if_neg (show ¬ ((0 : Int) ≤ k.toInt ∧ k.toInt ≤ 5) by omega), if_pos (show (0 : Int32) = 0 from rfl), zrm2]
end z48
