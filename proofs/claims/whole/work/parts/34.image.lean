/-! the ROW, the image, one's numbers -/
section z34
variable {X : zX} {h : zH} {w : zW} {mx mm : zM} {as : List Value}
theorem in_lay {I J : Nat → Nat → Int32} {q o : Nat} {x : zN} (hn : tn x.1 ≤ 6) (R : RP J (J 123 0) 124 125 126 127 128 x.1) (n : J 123 6 = nI x.2) (e : ∀ j, j < 37 → I q (o + j) = lay J j) : IN I q o x := by
  refine ⟨(e 0 (by decide)).trans R.1, (e 1 (by decide)).trans n, fun p hp => ?_⟩
  obtain ⟨r1, r2, r3, r4, r5⟩ := R.2 p hp
  refine ⟨?_, ?_, ?_, ?_, ?_⟩
  · rw [e _ (by omega)]; exact (lay_p (i := 0) (by decide)).trans r1
  · rw [e _ (by omega)]; exact (lay_p (i := 1) (by decide)).trans r2
  · rw [e _ (by omega)]; exact (lay_p (i := 2) (by decide)).trans r3
  · rw [e _ (by omega)]; exact (lay_p (i := 3) (by decide)).trans r4
  · rw [e _ (by omega)]; exact (lay_p (i := 4) (by decide)).trans r5
theorem in_unlay {I J : Nat → Nat → Int32} {q o : Nat} {x : zN} (hn : tn x.1 ≤ 6) (R : IN I q o x) (e : ∀ j, j < 37 → lay J j = I q (o + j)) : RP J (J 123 0) 124 125 126 127 128 x.1 ∧ J 123 6 = nI x.2 := by
  refine ⟨⟨(e 0 (by decide)).trans R.1, fun p hp => ?_⟩, (e 1 (by decide)).trans R.2.1⟩
  obtain ⟨r1, r2, r3, r4, r5⟩ := R.2.2 p hp
  refine ⟨?_, ?_, ?_, ?_, ?_⟩
  · exact ((lay_p (i := 0) (by decide)).symm.trans (e _ (by omega))).trans r1
  · exact ((lay_p (i := 1) (by decide)).symm.trans (e _ (by omega))).trans r2
  · exact ((lay_p (i := 2) (by decide)).symm.trans (e _ (by omega))).trans r3
  · exact ((lay_p (i := 3) (by decide)).symm.trans (e _ (by omega))).trans r4
  · exact ((lay_p (i := 4) (by decide)).symm.trans (e _ (by omega))).trans r5
theorem ok_row (hX : XP h w) (hM : MP h w) (V : WV w) {x : Int32} : OK2 X m_X_row m_M_row [.int x] h := by
  have h12 := V.2.2.2.2.2.2.1
  by_cases h0 : 0 ≤ x
  · by_cases h1 : (99 : Int32) < x
    · exact OK2.no (x := -6) 6 hX hM V (by decide) (by decide) (by decide) (by rw [e_X_row, if_pos h0, if_pos h1, zrx6]) fun h1' H i1 i2 R => ⟨H, by rw [e_M_row, if_pos h0, if_pos h1, zrm6, i1, i2], R, FM.rf⟩
    · by_cases h2 : wr w < 12
      · refine OK2.go (r := nI (wr w + 1)) (w' := uG w (wr w + 1) (zua (wg w) (wr w) x)) hM V (V.uG h2 ?_) ⟨_, ?_, hX.uG (h' := (zup (zup h.1 73 (wr w) x) 1 8 (nI (wr w + 1)), h.2)) ?_ ?_ ?_, ?_⟩ fun h1' H i1 i2 R => ⟨(zup (zup H.1 139 (wr w) x) 123 32 (nI (wr w + 1)), H.2), ?_, R.uG ?_ ?_ ?_ ?_, ?_⟩
        · intro j hj
          unfold zua
          by_cases q : j = wr w
          · rw [if_pos q]
            exact (rg_gt (n := 99) (by decide) h0).mp h1
          · rw [if_neg q]
            exact V.2.2.2.2.2.2.2 j (by omega)
        · have q := hX.2.2.2.2.1.1
          rw [e_X_row, if_pos h0, if_neg h1, q, if_pos (show nI (wr w) < (12 : Int32) from nI_lt (b := 12) h2 (by omega)), s_put zc_73 (by decide) h2 (by decide), zbV_some]
          dsimp only
          rw [zup_eq, zup_nc (by decide), q, nI_add1]
        · dsimp only; rw [zup_eq]
        · intro j hj
          dsimp only
          rw [zup_nc (by decide)]
          by_cases q : j = wr w
          · subst q
            rw [zup_eq]
            unfold zua
            rw [if_pos rfl]
          · rw [zup_ns q, hX.2.2.2.2.1.2 j (by omega)]
            unfold zua
            rw [if_neg q]
        · intro b j hb h73 h18 _
          dsimp only
          unfold zup
          rw [if_neg h18, if_neg (fun z => h73 z.1)]
        · exact FM.tr (h1 := (zup h.1 73 (wr w) x, h.2)) (FM.up (by unfold pXa; decide)) (FM.up (h := (zup h.1 73 (wr w) x, h.2)) (by unfold pXa; decide))
        · have q := R.2.2.2.2.1.1
          rw [e_M_row, if_pos h0, if_neg h1, i1, q, if_neg (show ¬ nI (wr w) = (12 : Int32) from fun z => absurd ((nI_eq (b := 12) (by omega) (by decide)).mp z) (by omega)), if_pos (zin_nI h2 (by decide)), nI_clamp (by omega), zup_eq, zup_nc (by decide), q, nI_add1, i2]
        · dsimp only; rw [zup_eq]
        · intro j hj
          dsimp only
          rw [zup_nc (by decide)]
          by_cases q : j = wr w
          · subst q
            rw [zup_eq]
            unfold zua
            rw [if_pos rfl]
          · rw [zup_ns q, R.2.2.2.2.1.2 j (by omega)]
            unfold zua
            rw [if_neg q]
        · refine ⟨?_, ?_, fun b j h1 h2 => ?_⟩ <;> dsimp only
          · rw [zup_ns (by decide), zup_nc (by decide)]
          · rw [zup_ns (by decide), zup_nc (by decide)]
          · rw [zup_nc (by omega), zup_nc (by omega)]
        · intro b j hb h130 h12 _
          dsimp only
          unfold zup
          rw [if_neg h12, if_neg (fun z => h130 z.1)]
        · exact FM.tr (h1 := (zup H.1 139 (wr w) x, H.2)) (FM.up (by unfold pMa; decide)) (FM.up (h := (zup H.1 139 (wr w) x, H.2)) (by unfold pMa; decide))
      · have e96 : wr w = 12 := by omega
        refine OK2.no (x := -6) 6 hX hM V (by decide) (by decide) (by decide) ?_ fun h1' H i1 i2 R => ⟨H, ?_, R, FM.rf⟩
        · rw [e_X_row, if_pos h0, if_neg h1, hX.2.2.2.2.1.1, e96, if_neg (by decide), zrx6]
        · rw [e_M_row, if_pos h0, if_neg h1, i1, i2, R.2.2.2.2.1.1, e96, if_pos (by decide), zrm6]
  · exact OK2.no (x := -4) 4 hX hM V (by decide) (by decide) (by decide) (by rw [e_X_row, if_neg h0, zrx4]) fun h1' H i1 i2 R => ⟨H, by rw [e_M_row, if_neg h0, zrm4, i1, i2], R, FM.rf⟩
theorem sM.up {h : zH} {j y : Nat} {v : Int32} (h0 : j ≠ 0) (h6 : j ≠ 6) : sM h (zup h.1 123 j v, y) := ⟨zup_ns (Ne.symm h0), zup_ns (Ne.symm h6), fun b i h1 h2 => zup_nc (by omega)⟩
theorem xp_clr (R : XP h w) : XP (zup h.1 1 8 0, h.2) (uG w 0 (wg w)) := R.uG (by dsimp only; rw [zup_eq]; rfl) (fun j hj => absurd hj (by omega)) fun b j _ _ h1 _ => by
  dsimp only
  unfold zup
  rw [if_neg h1]
theorem mp_clr (R : MP h w) : MP (zup h.1 123 32 0, h.2) (uG w 0 (wg w)) := R.uG (by dsimp only; rw [zup_eq]; rfl) (fun j hj => absurd hj (by omega)) (sM.up (by decide) (by decide)) fun b j _ _ h1 _ => by
  dsimp only
  unfold zup
  rw [if_neg h1]
theorem wv_clr (V : WV w) : WV (uG w 0 (wg w)) := V.uG (by omega) fun j hj => absurd hj (by omega)
theorem ok_clear (hX : XP h w) (hM : MP h w) (V : WV w) : OK2 X m_X_clear m_M_clear [] h := OK2.go (r := nI (wr w)) hM V (wv_clr V) ⟨_, by rw [e_X_clear, hX.2.2.2.2.1.1], xp_clr hX, FM.up (by unfold pXa; decide)⟩ fun h1 H i1 i2 R => ⟨_, by rw [e_M_clear, i1, i2, R.2.2.2.2.1.1], mp_clr R, FM.up (by unfold pMa; decide)⟩
theorem ok_image (hX : XP h w) (hM : MP h w) (V : WV w) : OK2 X m_X_image m_M_image [] h := by
  refine OK2.go (r := nI (wn w)) (w' := uI w w.1) hM V (V.uI V.1) ?_ ?_
  · obtain ⟨h1, a1, a2, a3, a4⟩ := s_become (X := X) hH_15 hH_2 (by decide) hX.1.1 V.1.1.1
    have e : ∀ b j, b ≠ 1 → zup h1.1 1 4 1 b j = h1.1 b j := fun b j hb => zup_nc hb
    refine ⟨(zup h1.1 1 4 1, h1.2), ?_, hX.uI ⟨a2.of fun b j _ _ => e b j (by omega), ?_⟩ (by dsimp only; rw [zup_eq]) ?_, ?_⟩
    · rw [e_X_image, a1, zbV_some, e _ _ (by decide), a4.2 2 6 (by decide), hX.1.2]
      rfl
    · dsimp only
      rw [e _ _ (by decide), a3, hX.1.2]
    · intro b j hb h1' h14 _
      dsimp only
      unfold zup
      rw [if_neg h14]
      exact a4.2 b j (by omega)
    · exact (a4.fm fun b j _ _ => by unfold pXa; omega).tr (FM.up (by unfold pXa; decide))
  · intro h1 H i1 i2 R
    obtain ⟨h2, a1, T⟩ := m_takeAll (X := X) (h := (zup H.1 123 21 1, H.2)) (q := 134) (by decide) zc_135
    obtain ⟨t1, t2, t3, t4, t5⟩ := T
    have l : sM H h2 := by
      refine ⟨?_, ?_, fun b j h1 h2 => ?_⟩
      · rw [t5 123 0 (by decide) (by decide)]; dsimp only; rw [zup_ns (by decide)]
      · rw [t5 123 6 (by decide) (by decide)]; dsimp only; rw [zup_ns (by decide)]
      · rw [t5 b j (by omega) (by omega)]; dsimp only; rw [zup_nc (by omega)]
    have l0 : sM H (zup H.1 123 21 1, H.2) := sM.up (by decide) (by decide)
    refine ⟨h2, ?_, R.uI (in_lay (J := zup H.1 123 21 1) V.1.1.1 (l0.mr R.1.1) (l0.2.1.trans R.1.2) fun j hj => ?_) ?_ l ?_, ?_⟩
    · rw [e_M_image, i1, i2, a1, zbV_some, l.2.1, R.1.2]
    · rw [Nat.zero_add]
      exact t4 j hj
    · rw [t5 123 21 (by decide) (by decide)]
      dsimp only
      rw [zup_eq]
    · intro b j hb h135 h21 hS
      rw [t5 b j h135 (fun z => hS (by unfold pS; omega))]
      dsimp only
      unfold zup
      rw [if_neg h21]
    · refine FM.tr (h1 := (zup H.1 123 21 1, H.2)) (FM.up (by unfold pMa; decide)) fun b j hb => ?_
      unfold pMa at hb
      exact t5 b j (by omega) (by omega)
end z34
