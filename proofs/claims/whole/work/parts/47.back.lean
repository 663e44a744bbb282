/-! back -/
section z47
variable {X : zX} {h h0 : zH} {w : zW} {t : zT}
theorem e_X_back1 {v : Nat} {h h' : zH} (Hw : isH v) (hs : 1 ≤ h.1 21 1) (PW : zcf X m_P_giveBack [.ref 21] h = some (some (.ref v), h')) : zcf X m_X_back [.ref 1] h = (zbV (zcf X m_H_become [.ref 2, .ref v] h') fun h2 => (some (some (.int (h2.1 21 1)), h2))) := by
  refine (zcf_run (Nat.le_of_ble_eq_true rfl)).trans ?_
  show zrn X 2 m_X_back 0 [some (.ref 1)] [] h = _
  refine (rn_ld d_X_back_0 rfl rfl rfl rfl).trans ?_
  refine (rn_gr d_X_back_1 f_3_33 zc_1 zr_1_5).trans ?_
  refine (rn_gi d_X_back_4 f_3_146 zc_21).trans ?_
  refine (rn_push d_X_back_7 zcs_iconst_1).trans ?_
  refine ((rn_ic_ge d_X_back_8 (t := 18) (by decide)).trans (if_pos hs)).trans ?_
  refine (rn_ld d_X_back_18 rfl rfl rfl rfl).trans ?_
  refine (rn_gr d_X_back_19 f_3_10 zc_1 zr_1_0).trans ?_
  refine (rn_ld d_X_back_22 rfl rfl rfl rfl).trans ?_
  refine (rn_gr d_X_back_23 f_3_33 zc_1 zr_1_5).trans ?_
  refine (rn_vR d_X_back_26 (zinv_v l_3_147 (by decide) (Nat.le_of_ble_eq_true rfl) rfl rfl zc_21 (Nat.le_of_ble_eq_true rfl)) (Nat.le_of_ble_eq_true rfl) rfl).trans ?_
  refine (congrArg (fun o => zbR o _) PW).trans ?_
  refine zbR_some.trans ?_
  refine (rn_vV d_X_back_29 (zinv_v l_3_69 (by decide) (Nat.le_of_ble_eq_true rfl) rfl rfl zc_2 (Nat.le_of_ble_eq_true rfl)) (Nat.le_of_ble_eq_true rfl) rfl).trans (zbV_congr fun h2 => ?_)
  refine (rn_ld d_X_back_32 rfl rfl rfl rfl).trans ?_
  refine (rn_gr d_X_back_33 f_3_33 zc_1 zr_1_5).trans ?_
  refine (rn_gi d_X_back_36 f_3_146 zc_21).trans ?_
  exact rn_ri d_X_back_39 rfl
theorem e_X_back0 {h : zH} (hs : ¬ 1 ≤ h.1 21 1) : zcf X m_X_back [.ref 1] h = (zbI (zcf X m_X_refuse [.ref 1, .int (-3)] h) fun v4 h3 => (some (some (.int v4), h3))) := by
  refine (zcf_run (Nat.le_of_ble_eq_true rfl)).trans ?_
  show zrn X 2 m_X_back 0 [some (.ref 1)] [] h = _
  refine (rn_ld d_X_back_0 rfl rfl rfl rfl).trans ?_
  refine (rn_gr d_X_back_1 f_3_33 zc_1 zr_1_5).trans ?_
  refine (rn_gi d_X_back_4 f_3_146 zc_21).trans ?_
  refine (rn_push d_X_back_7 zcs_iconst_1).trans ?_
  refine ((rn_ic_ge d_X_back_8 (t := 18) (by decide)).trans (if_neg hs)).trans ?_
  refine (rn_ld d_X_back_11 rfl rfl rfl rfl).trans ?_
  refine (rn_push d_X_back_12 zcs_bipush_m3).trans ?_
  refine (rn_vI d_X_back_14 (zinv_v l_3_55 (by decide) (Nat.le_of_ble_eq_true rfl) rfl rfl zc_1 (Nat.le_of_ble_eq_true rfl)) (Nat.le_of_ble_eq_true rfl) (Or.inl rfl)).trans (zbI_congr fun v4 h3 => ?_)
  exact rn_ri d_X_back_17 rfl
theorem nI_sub1 {n : Nat} (hn : 1 ≤ n) : nI n - 1 = nI (n - 1) := by
  obtain ⟨m, rfl⟩ : ∃ m, n = m + 1 := ⟨n - 1, by omega⟩
  rw [← nI_add1, Int32.add_sub_cancel]
  rfl
/-- the latest that was kept is the hill again -/
def bk (w : zW) : zW := uN (uP w (wk w - 1) (fun i => ws w (i + 1))) (ws w 0)
theorem wv_bk (V : WV w) (hk : 1 ≤ wk w) : WV (bk w) := WV.uN (w := uP w (wk w - 1) (fun i => ws w (i + 1))) (V.uP (by have := V.2.2.1; omega) fun i hi => V.2.2.2.1 _ (by omega)) (V.2.2.2.1 0 (by omega))
theorem s_back (hX : XP h w) (V : WV w) (hk : 1 ≤ wk w) : ∃ h', zcf X m_X_back [.ref 1] h = some (some (.int (nI (wk w - 1))), h') ∧ XP h' (bk w) ∧ FM pXa h h' := by
  obtain ⟨x, x1, x2, x3, x4⟩ := hX.2.2.1
  have h8 := V.2.2.1
  have v0 := V.2.2.2.1 0 hk
  have n0 := x4 0 hk
  have ep : pst x 0 = 23 + 6 * ((x + 7) % 8) := by unfold pst; omega
  rw [ep] at n0
  have hy : (x + 7) % 8 < 8 := Nat.mod_lt _ (by decide)
  have f : ∀ (u v : Int32) b j, b ≠ 21 → (zup (zup h.1 21 2 u) 21 1 v) b j = h.1 b j := fun u v b j hb => by rw [zup_nc hb, zup_nc hb]
  have PW : zcf X m_P_giveBack [.ref 21] h = some (some (.ref (23 + 6 * ((x + 7) % 8))), (zup (zup h.1 21 2 (nI ((x + 7) % 8))) 21 1 (nI (wk w - 1)), h.2)) := by
    have q : zrem ((h.1 21 2 + 8) - 1) 8 = nI ((x + 7) % 8) := by rw [x2, mod8b x x1]
    have q1 : ∀ u : Int32, (zup h.1 21 2 u) 21 1 = nI (wk w) := fun u => by rw [zup_ns (by decide), x3]
    rw [e_P_giveBack (w := 23 + 6 * ((x + 7) % 8)) (hH_p hy) ?_, x3, if_pos (show (1 : Int32) ≤ nI (wk w) from nI_le (a := 1) hk (by omega)), q, q1, nI_sub1 hk]
    rw [q, q1, nI_sub1 hk, zup_ns (by decide), zup_eq]
    exact e_P_placeAt hy
  have r1 : XP (zup (zup h.1 21 2 (nI ((x + 7) % 8))) 21 1 (nI (wk w - 1)), h.2) (uP w (wk w - 1) (fun i => ws w (i + 1))) := by
    refine hX.uP ⟨(x + 7) % 8, hy, ?_, ?_, fun i hi => ?_⟩ fun b j _ h1 _ => f _ _ _ _ (by omega)
    · dsimp only; rw [zup_ns (by decide), zup_eq]
    · dsimp only; rw [zup_eq]
    · have e : pst ((x + 7) % 8) i = pst x (i + 1) := by unfold pst; omega
      rw [e]
      exact (x4 (i + 1) (by omega)).of fun b j h1 h2 => f _ _ _ _ (by have := @pst_le x (i + 1); omega)
  obtain ⟨h1, a1, a2, a3, a4⟩ := s_become (X := X) (h := (zup (zup h.1 21 2 (nI ((x + 7) % 8))) 21 1 (nI (wk w - 1)), h.2)) hH_2 (hH_p hy) (by omega) (n0.1.of fun b j h1 h2 => f _ _ _ _ (by omega)) v0.1.1
  refine ⟨h1, ?_, xp_hl r1 ⟨a2, ?_⟩ fun b j _ hb => a4.2 b j (by omega), ?_⟩
  · rw [e_X_back1 (hH_p hy) (by rw [x3]; exact nI_le (a := 1) hk (by omega)) PW, a1, zbV_some, a4.2 21 1 (by omega)]
    dsimp only
    rw [zup_eq]
  · rw [a3]
    dsimp only
    rw [f _ _ _ _ (by omega)]
    exact n0.2
  · intro b j hb
    unfold pXa at hb
    rw [a4.2 b j (by omega)]
    exact f _ _ _ _ (by omega)
theorem m_bkF {k : Nat} (hk : k < 8) : ∀ (m i : Nat) (h : zH), i + m = 37 → h.1 123 27 = nI k → ∃ h1, zrn X 2 m_M_back 31 [some (.ref 123), some (.int (nI i))] [] h = (zbV (zcf X m_M_carryAll [.ref 123, .ref 137, .int 0] h1) fun h2 => (some (some (.int (h2.1 123 27)), h2))) ∧ (∀ j, i ≤ j → j < 37 → h1.1 137 j = h.1 136 (37 * k + j)) ∧ (∀ j, j < i → h1.1 137 j = h.1 137 j) ∧ ∀ b j, b ≠ 137 → h1.1 b j = h.1 b j := by
  intro m
  induction m with
  | zero =>
    intro i h hi hk2
    exact ⟨h, by rw [b_M_back_31, if_pos (show (37 : Int32) ≤ nI i from nI_le (a := 37) (by omega) (by omega))], fun j h1 h2 => by omega, fun j _ => rfl, fun b j _ => rfl⟩
  | succ m ih =>
    intro i h hi hk2
    obtain ⟨h1, a1, a2, a3, a4⟩ := ih (i + 1) (zup h.1 137 i (h.1 136 (37 * k + i)), h.2) (by omega) (by dsimp only; rw [zup_nc (by decide)]; exact hk2)
    refine ⟨h1, ?_, fun j h2 h3 => ?_, fun j h2 => ?_, fun b j h2 => ?_⟩
    · rw [b_M_back_31, if_neg (show ¬ (37 : Int32) ≤ nI i from nI_ge (b := 37) (by omega) (by omega)), hk2, k37 k hk i (by omega), if_pos (zin_nI (by omega) (by decide)), if_pos (zin_nI (by omega) (by decide)), nI_clamp (by omega), nI_clamp (by omega), nI_add1]
      exact a1
    · by_cases q : j = i
      · rw [a3 _ (by omega), q]
        dsimp only
        rw [zup_eq]
      · rw [a2 j (by omega) h3]
        dsimp only
        rw [zup_nc (by decide)]
    · rw [a3 j (by omega)]
      dsimp only
      rw [zup_ns (by omega)]
    · rw [a4 b j h2]
      exact zup_nc h2
theorem m_back (R : MP h w) (V : WV w) (hk : 1 ≤ wk w) {h1 : zH} (i1 : zup h1.1 123 7 0 = h.1) (i2 : h1.2 = h.2) : ∃ h', zcf X m_M_back [.ref 123] h1 = some (some (.int (nI (wk w - 1))), h') ∧ MP h' (bk w) ∧ FM pMa h h' := by
  have h8 := V.2.2.1
  have v0 := V.2.2.2.1 0 hk
  have n0 := R.2.2.1.2 0 hk
  have r1 : MP (zup h.1 123 27 (nI (wk w - 1)), h.2) (uP w (wk w - 1) (fun i => ws w (i + 1))) := by
    refine R.uP (by dsimp only; rw [zup_eq]) (fun i hi => ?_) (sM.up (by decide) (by decide)) fun b j _ _ h1 _ => ?_
    · have := R.2.2.1.2 (i + 1) (by omega)
      rw [show wk w - 1 - (i + 1) = wk w - 1 - 1 - i by omega] at this
      exact this.of fun j => by
        dsimp only
        rw [zup_nc (by decide)]
    · dsimp only
      unfold zup
      rw [if_neg h1]
  obtain ⟨h2, a1, a2, a3, a4⟩ := m_bkF (X := X) (k := wk w - 1) (by omega) 37 0 (zup h.1 123 27 (nI (wk w - 1)), h.2) rfl (by dsimp only; rw [zup_eq])
  obtain ⟨h3, b1, T⟩ := m_putAll (X := X) (h := h2) (q := 136) (by decide) zc_137
  obtain ⟨t1, t2, t3, t4, t5⟩ := T
  obtain ⟨u1, u2⟩ := in_unlay (J := h3.1) v0.1.1 n0 fun j hj => by
    rw [t4 j hj, a2 j (by omega) hj]
    dsimp only
    rw [zup_nc (by decide)]
    rfl
  refine ⟨h3, ?_, MP.uN r1 u1 u2 fun b j hb hS => (t5 b j (fun z => hS (by unfold pS; omega)) (fun z => hS (by unfold pS; omega))).trans (a4 b j (fun z => hS (by unfold pS; omega))), ?_⟩
  · rw [e_M_back, i1, i2, R.2.2.1.1, if_neg (show ¬ nI (wk w) = (0 : Int32) from fun z => absurd ((nI_eq (b := 0) (by omega) (by decide)).mp z) (by omega)), nI_sub1 hk]
    refine a1.trans ?_
    rw [b1, zbV_some, t5 123 27 (by decide) (by decide), a4 123 27 (by decide)]
    dsimp only
    rw [zup_eq]
  · intro b j hb
    unfold pMa at hb
    rw [t5 b j (by omega) (by omega), a4 b j (by omega)]
    exact zup_nc (by omega)
theorem ok_back (hX : XP h w) (hM : MP h w) (V : WV w) : OK2 X m_X_back m_M_back [] h := by
  have h8 := V.2.2.1
  by_cases hk : 1 ≤ wk w
  · exact OK2.go (r := nI (wk w - 1)) (w' := bk w) hM V (wv_bk V hk) (s_back hX V hk) fun h1 H i1 i2 R => m_back R V hk i1 i2
  · have e0 : wk w = 0 := by omega
    refine OK2.no (x := -3) 3 hX hM V (by decide) (by decide) (by decide) ?_ fun h1' H i1 i2 R => ⟨H, ?_, R, FM.rf⟩
    · obtain ⟨x, x1, x2, x3, x4⟩ := hX.2.2.1
      rw [e_X_back0 (by rw [x3, e0]; decide), zrx3]
    · rw [e_M_back, i1, i2, R.2.2.1.1, e0, if_pos (show nI 0 = (0 : Int32) from rfl), zrm3]
end z47
