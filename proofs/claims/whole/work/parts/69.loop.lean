/-! the law's loop: every call is answered alike -/
section z69
variable {X : zX} {h : zH} {w : zW} {i : Nat}
theorem nI_a4 (i : Nat) : nI i + 4 = nI (i + 4) := nI_add i 4
theorem nI_a6 (i : Nat) : nI i + 6 = nI (i + 6) := nI_add i 6
theorem lg_rr {r : Int64} : lg_cmp r r = 0 := by
  unfold lg_cmp
  rw [if_neg (fun z => absurd (Int64.lt_iff_toInt_lt.mp z) (by omega)), if_pos rfl]
theorem lc_0 (hi : i + 6 ≤ X.1) (hL : X.1 ≤ 3072) (hX : XP h w) (hM : MP h w) (V : WV w) : ∃ h' w', zrn X 15 m_L_law 216 [some (.ref 0), some (.ref 1), some (.ref 123), some (.int (nI i))] [] h = zrn X 15 m_L_law 1313 [some (.ref 0), some (.ref 1), some (.ref 123), some (.int (nI i))] [] h' ∧ XP h' w' ∧ MP h' w' ∧ WV w' := by
  have k : OK2 X m_X_feed m_M_feed [.int (X.2 (i + 1))] h := ok_feed hX hM V
  obtain ⟨r, h1, h2, w', a1, a2, a3, a4, a5⟩ := k
  refine ⟨h2, w', ?_, a3, a4, a5⟩
  rw [b_L_law_216]
  simp only [nI_add1, if_pos (zin_nI (show i + 1 < X.1 by omega) (show X.1 < 2 ^ 31 by omega)), nI_clamp (show i + 1 < 2 ^ 31 by omega)]
  rw [a1, zbI_some]
  rw [a2, zbI_some, if_pos rfl]
theorem lc_1 (hi : i + 6 ≤ X.1) (hL : X.1 ≤ 3072) (hX : XP h w) (hM : MP h w) (V : WV w) : ∃ h' w', zrn X 15 m_L_law 239 [some (.ref 0), some (.ref 1), some (.ref 123), some (.int (nI i))] [] h = zrn X 15 m_L_law 1313 [some (.ref 0), some (.ref 1), some (.ref 123), some (.int (nI i))] [] h' ∧ XP h' w' ∧ MP h' w' ∧ WV w' := by
  have k : OK2 X m_X_hill m_M_hill [] h := ok_hill hX hM V
  obtain ⟨r, h1, h2, w', a1, a2, a3, a4, a5⟩ := k
  refine ⟨h2, w', ?_, a3, a4, a5⟩
  rw [b_L_law_239]
  rw [a1, zbI_some]
  rw [a2, zbI_some, if_pos rfl]
theorem lc_2 (hi : i + 6 ≤ X.1) (hL : X.1 ≤ 3072) (hX : XP h w) (hM : MP h w) (V : WV w) : ∃ h' w', zrn X 15 m_L_law 252 [some (.ref 0), some (.ref 1), some (.ref 123), some (.int (nI i))] [] h = zrn X 15 m_L_law 1313 [some (.ref 0), some (.ref 1), some (.ref 123), some (.int (nI i))] [] h' ∧ XP h' w' ∧ MP h' w' ∧ WV w' := by
  have k : OK2 X m_X_personOf m_M_personOf [.int (X.2 (i + 1)), .int (X.2 (i + 2))] h := ok_personOf hX hM V
  obtain ⟨r, h1, h2, w', a1, a2, a3, a4, a5⟩ := k
  refine ⟨h2, w', ?_, a3, a4, a5⟩
  rw [b_L_law_252]
  simp only [nI_add1, nI_a2, if_pos (zin_nI (show i + 1 < X.1 by omega) (show X.1 < 2 ^ 31 by omega)), if_pos (zin_nI (show i + 2 < X.1 by omega) (show X.1 < 2 ^ 31 by omega)), nI_clamp (show i + 1 < 2 ^ 31 by omega), nI_clamp (show i + 2 < 2 ^ 31 by omega)]
  rw [a1, zbI_some]
  rw [a2, zbI_some, if_pos rfl]
theorem lc_3 (hi : i + 6 ≤ X.1) (hL : X.1 ≤ 3072) (hX : XP h w) (hM : MP h w) (V : WV w) : ∃ h' w', zrn X 15 m_L_law 285 [some (.ref 0), some (.ref 1), some (.ref 123), some (.int (nI i))] [] h = zrn X 15 m_L_law 1313 [some (.ref 0), some (.ref 1), some (.ref 123), some (.int (nI i))] [] h' ∧ XP h' w' ∧ MP h' w' ∧ WV w' := by
  have k : OK2 X m_X_person m_M_person [.int (X.2 (i + 1)), .int (X.2 (i + 2)), .int (X.2 (i + 3)), .int (X.2 (i + 4))] h := ok_person hX hM V
  obtain ⟨r, h1, h2, w', a1, a2, a3, a4, a5⟩ := k
  refine ⟨h2, w', ?_, a3, a4, a5⟩
  rw [b_L_law_285]
  simp only [nI_add1, nI_a2, nI_a3, nI_a4, if_pos (zin_nI (show i + 1 < X.1 by omega) (show X.1 < 2 ^ 31 by omega)), if_pos (zin_nI (show i + 2 < X.1 by omega) (show X.1 < 2 ^ 31 by omega)), if_pos (zin_nI (show i + 3 < X.1 by omega) (show X.1 < 2 ^ 31 by omega)), if_pos (zin_nI (show i + 4 < X.1 by omega) (show X.1 < 2 ^ 31 by omega)), nI_clamp (show i + 1 < 2 ^ 31 by omega), nI_clamp (show i + 2 < 2 ^ 31 by omega), nI_clamp (show i + 3 < 2 ^ 31 by omega), nI_clamp (show i + 4 < 2 ^ 31 by omega)]
  rw [a1, zbI_some]
  rw [a2, zbI_some, if_pos rfl]
theorem lc_4 (hi : i + 6 ≤ X.1) (hL : X.1 ≤ 3072) (hX : XP h w) (hM : MP h w) (V : WV w) : ∃ h' w', zrn X 15 m_L_law 338 [some (.ref 0), some (.ref 1), some (.ref 123), some (.int (nI i))] [] h = zrn X 15 m_L_law 1313 [some (.ref 0), some (.ref 1), some (.ref 123), some (.int (nI i))] [] h' ∧ XP h' w' ∧ MP h' w' ∧ WV w' := by
  have k : OK2 X m_X_turns m_M_turns [.int (X.2 (i + 1)), .int (X.2 (i + 2))] h := ok_turns hX hM V
  obtain ⟨r, h1, h2, w', a1, a2, a3, a4, a5⟩ := k
  refine ⟨h2, w', ?_, a3, a4, a5⟩
  rw [b_L_law_338]
  simp only [nI_add1, nI_a2, if_pos (zin_nI (show i + 1 < X.1 by omega) (show X.1 < 2 ^ 31 by omega)), if_pos (zin_nI (show i + 2 < X.1 by omega) (show X.1 < 2 ^ 31 by omega)), nI_clamp (show i + 1 < 2 ^ 31 by omega), nI_clamp (show i + 2 < 2 ^ 31 by omega)]
  rw [a1, zbI_some]
  rw [a2, zbI_some, if_pos rfl]
theorem lc_5 (hi : i + 6 ≤ X.1) (hL : X.1 ≤ 3072) (hX : XP h w) (hM : MP h w) (V : WV w) : ∃ h' w', zrn X 15 m_L_law 371 [some (.ref 0), some (.ref 1), some (.ref 123), some (.int (nI i))] [] h = zrn X 15 m_L_law 1313 [some (.ref 0), some (.ref 1), some (.ref 123), some (.int (nI i))] [] h' ∧ XP h' w' ∧ MP h' w' ∧ WV w' := by
  have k : OK2 X m_X_stands m_M_stands [.int (X.2 (i + 1)), .int (X.2 (i + 2))] h := ok_stands hX hM V
  obtain ⟨r, h1, h2, w', a1, a2, a3, a4, a5⟩ := k
  refine ⟨h2, w', ?_, a3, a4, a5⟩
  rw [b_L_law_371]
  simp only [nI_add1, nI_a2, if_pos (zin_nI (show i + 1 < X.1 by omega) (show X.1 < 2 ^ 31 by omega)), if_pos (zin_nI (show i + 2 < X.1 by omega) (show X.1 < 2 ^ 31 by omega)), nI_clamp (show i + 1 < 2 ^ 31 by omega), nI_clamp (show i + 2 < 2 ^ 31 by omega)]
  rw [a1, zbI_some]
  rw [a2, zbI_some, if_pos rfl]
theorem lc_6 (hi : i + 6 ≤ X.1) (hL : X.1 ≤ 3072) (hX : XP h w) (hM : MP h w) (V : WV w) : ∃ h' w', zrn X 15 m_L_law 404 [some (.ref 0), some (.ref 1), some (.ref 123), some (.int (nI i))] [] h = zrn X 15 m_L_law 1313 [some (.ref 0), some (.ref 1), some (.ref 123), some (.int (nI i))] [] h' ∧ XP h' w' ∧ MP h' w' ∧ WV w' := by
  have k : OK2 X m_X_nights m_M_nights [.int (X.2 (i + 1))] h := ok_nights hX hM V
  obtain ⟨r, h1, h2, w', a1, a2, a3, a4, a5⟩ := k
  refine ⟨h2, w', ?_, a3, a4, a5⟩
  rw [b_L_law_404]
  simp only [nI_add1, if_pos (zin_nI (show i + 1 < X.1 by omega) (show X.1 < 2 ^ 31 by omega)), nI_clamp (show i + 1 < 2 ^ 31 by omega)]
  rw [a1, zbI_some]
  rw [a2, zbI_some, if_pos rfl]
theorem lc_7 (hi : i + 6 ≤ X.1) (hL : X.1 ≤ 3072) (hX : XP h w) (hM : MP h w) (V : WV w) : ∃ h' w', zrn X 15 m_L_law 427 [some (.ref 0), some (.ref 1), some (.ref 123), some (.int (nI i))] [] h = zrn X 15 m_L_law 1313 [some (.ref 0), some (.ref 1), some (.ref 123), some (.int (nI i))] [] h' ∧ XP h' w' ∧ MP h' w' ∧ WV w' := by
  have k : OK2 X m_X_back m_M_back [] h := ok_back hX hM V
  obtain ⟨r, h1, h2, w', a1, a2, a3, a4, a5⟩ := k
  refine ⟨h2, w', ?_, a3, a4, a5⟩
  rw [b_L_law_427]
  rw [a1, zbI_some]
  rw [a2, zbI_some, if_pos rfl]
theorem lc_8 (hi : i + 6 ≤ X.1) (hL : X.1 ≤ 3072) (hX : XP h w) (hM : MP h w) (V : WV w) : ∃ h' w', zrn X 15 m_L_law 440 [some (.ref 0), some (.ref 1), some (.ref 123), some (.int (nI i))] [] h = zrn X 15 m_L_law 1313 [some (.ref 0), some (.ref 1), some (.ref 123), some (.int (nI i))] [] h' ∧ XP h' w' ∧ MP h' w' ∧ WV w' := by
  have k : OK2 X m_X_behind m_M_behind [.int (X.2 (i + 1)), .int (X.2 (i + 2)), .int (X.2 (i + 3))] h := ok_behind hX hM V
  obtain ⟨r, h1, h2, w', a1, a2, a3, a4, a5⟩ := k
  refine ⟨h2, w', ?_, a3, a4, a5⟩
  rw [b_L_law_440]
  simp only [nI_add1, nI_a2, nI_a3, if_pos (zin_nI (show i + 1 < X.1 by omega) (show X.1 < 2 ^ 31 by omega)), if_pos (zin_nI (show i + 2 < X.1 by omega) (show X.1 < 2 ^ 31 by omega)), if_pos (zin_nI (show i + 3 < X.1 by omega) (show X.1 < 2 ^ 31 by omega)), nI_clamp (show i + 1 < 2 ^ 31 by omega), nI_clamp (show i + 2 < 2 ^ 31 by omega), nI_clamp (show i + 3 < 2 ^ 31 by omega)]
  rw [a1, zbI_some]
  rw [a2, zbI_some, if_pos rfl]
theorem lc_9 (hi : i + 6 ≤ X.1) (hL : X.1 ≤ 3072) (hX : XP h w) (hM : MP h w) (V : WV w) : ∃ h' w', zrn X 15 m_L_law 483 [some (.ref 0), some (.ref 1), some (.ref 123), some (.int (nI i))] [] h = zrn X 15 m_L_law 1313 [some (.ref 0), some (.ref 1), some (.ref 123), some (.int (nI i))] [] h' ∧ XP h' w' ∧ MP h' w' ∧ WV w' := by
  have k : OK2 X m_X_allStarts m_M_allStarts [.int (X.2 (i + 1))] h := ok_allStarts hX hM V
  obtain ⟨r, h1, h2, w', a1, a2, a3, a4, a5⟩ := k
  refine ⟨h2, w', ?_, a3, a4, a5⟩
  rw [b_L_law_483]
  simp only [nI_add1, if_pos (zin_nI (show i + 1 < X.1 by omega) (show X.1 < 2 ^ 31 by omega)), nI_clamp (show i + 1 < 2 ^ 31 by omega)]
  rw [a1, zbI_some]
  rw [a2, zbI_some, if_pos rfl]
theorem lc_10 (hi : i + 6 ≤ X.1) (hL : X.1 ≤ 3072) (hX : XP h w) (hM : MP h w) (V : WV w) : ∃ h' w', zrn X 15 m_L_law 506 [some (.ref 0), some (.ref 1), some (.ref 123), some (.int (nI i))] [] h = zrn X 15 m_L_law 1313 [some (.ref 0), some (.ref 1), some (.ref 123), some (.int (nI i))] [] h' ∧ XP h' w' ∧ MP h' w' ∧ WV w' := by
  have k : OK2 X m_X_first m_M_first [.int (X.2 (i + 1)), .int (X.2 (i + 2))] h := ok_first hX hM V
  obtain ⟨r, h1, h2, w', a1, a2, a3, a4, a5⟩ := k
  refine ⟨h2, w', ?_, a3, a4, a5⟩
  rw [b_L_law_506]
  simp only [nI_add1, nI_a2, if_pos (zin_nI (show i + 1 < X.1 by omega) (show X.1 < 2 ^ 31 by omega)), if_pos (zin_nI (show i + 2 < X.1 by omega) (show X.1 < 2 ^ 31 by omega)), nI_clamp (show i + 1 < 2 ^ 31 by omega), nI_clamp (show i + 2 < 2 ^ 31 by omega)]
  rw [a1, zbI_some]
  rw [a2, zbI_some, if_pos rfl]
theorem lc_11 (hi : i + 6 ≤ X.1) (hL : X.1 ≤ 3072) (hX : XP h w) (hM : MP h w) (V : WV w) : ∃ h' w', zrn X 15 m_L_law 539 [some (.ref 0), some (.ref 1), some (.ref 123), some (.int (nI i))] [] h = zrn X 15 m_L_law 1313 [some (.ref 0), some (.ref 1), some (.ref 123), some (.int (nI i))] [] h' ∧ XP h' w' ∧ MP h' w' ∧ WV w' := by
  have k : OK2 X m_X_still m_M_still [] h := ok_still hX hM V
  obtain ⟨r, h1, h2, w', a1, a2, a3, a4, a5⟩ := k
  refine ⟨h2, w', ?_, a3, a4, a5⟩
  rw [b_L_law_539]
  rw [a1, zbI_some]
  rw [a2, zbI_some, if_pos rfl]
theorem lc_12 (hi : i + 6 ≤ X.1) (hL : X.1 ≤ 3072) (hX : XP h w) (hM : MP h w) (V : WV w) : ∃ h' w', zrn X 15 m_L_law 552 [some (.ref 0), some (.ref 1), some (.ref 123), some (.int (nI i))] [] h = zrn X 15 m_L_law 1313 [some (.ref 0), some (.ref 1), some (.ref 123), some (.int (nI i))] [] h' ∧ XP h' w' ∧ MP h' w' ∧ WV w' := by
  have k : OK2 X m_X_unseen m_M_unseen [] h := ok_unseen hX hM V
  obtain ⟨r, h1, h2, w', a1, a2, a3, a4, a5⟩ := k
  refine ⟨h2, w', ?_, a3, a4, a5⟩
  rw [b_L_law_552]
  rw [a1, zbI_some]
  rw [a2, zbI_some, if_pos rfl]
theorem lc_13 (hi : i + 6 ≤ X.1) (hL : X.1 ≤ 3072) (hX : XP h w) (hM : MP h w) (V : WV w) : ∃ h' w', zrn X 15 m_L_law 565 [some (.ref 0), some (.ref 1), some (.ref 123), some (.int (nI i))] [] h = zrn X 15 m_L_law 1313 [some (.ref 0), some (.ref 1), some (.ref 123), some (.int (nI i))] [] h' ∧ XP h' w' ∧ MP h' w' ∧ WV w' := by
  have k : OK2 X m_X_chain m_M_chain [.int (X.2 (i + 1)), .int (X.2 (i + 2))] h := ok_chain hX hM V
  obtain ⟨r, h1, h2, w', a1, a2, a3, a4, a5⟩ := k
  refine ⟨h2, w', ?_, a3, a4, a5⟩
  rw [b_L_law_565]
  simp only [nI_add1, nI_a2, if_pos (zin_nI (show i + 1 < X.1 by omega) (show X.1 < 2 ^ 31 by omega)), if_pos (zin_nI (show i + 2 < X.1 by omega) (show X.1 < 2 ^ 31 by omega)), nI_clamp (show i + 1 < 2 ^ 31 by omega), nI_clamp (show i + 2 < 2 ^ 31 by omega)]
  rw [a1, zbI_some]
  rw [a2, zbI_some, if_pos rfl]
theorem lc_14 (hi : i + 6 ≤ X.1) (hL : X.1 ≤ 3072) (hX : XP h w) (hM : MP h w) (V : WV w) : ∃ h' w', zrn X 15 m_L_law 598 [some (.ref 0), some (.ref 1), some (.ref 123), some (.int (nI i))] [] h = zrn X 15 m_L_law 1313 [some (.ref 0), some (.ref 1), some (.ref 123), some (.int (nI i))] [] h' ∧ XP h' w' ∧ MP h' w' ∧ WV w' := by
  have k : OK2 X m_X_deepest m_M_deepest [] h := ok_deepest hX hM V
  obtain ⟨r, h1, h2, w', a1, a2, a3, a4, a5⟩ := k
  refine ⟨h2, w', ?_, a3, a4, a5⟩
  rw [b_L_law_598]
  rw [a1, zbI_some]
  rw [a2, zbI_some, if_pos rfl]
theorem lc_15 (hi : i + 6 ≤ X.1) (hL : X.1 ≤ 3072) (hX : XP h w) (hM : MP h w) (V : WV w) : ∃ h' w', zrn X 15 m_L_law 611 [some (.ref 0), some (.ref 1), some (.ref 123), some (.int (nI i))] [] h = zrn X 15 m_L_law 1313 [some (.ref 0), some (.ref 1), some (.ref 123), some (.int (nI i))] [] h' ∧ XP h' w' ∧ MP h' w' ∧ WV w' := by
  have k : OK2 X m_X_knows m_M_knows [.int (X.2 (i + 1)), .int (X.2 (i + 2))] h := ok_knows hX hM V
  obtain ⟨r, h1, h2, w', a1, a2, a3, a4, a5⟩ := k
  refine ⟨h2, w', ?_, a3, a4, a5⟩
  rw [b_L_law_611]
  simp only [nI_add1, nI_a2, if_pos (zin_nI (show i + 1 < X.1 by omega) (show X.1 < 2 ^ 31 by omega)), if_pos (zin_nI (show i + 2 < X.1 by omega) (show X.1 < 2 ^ 31 by omega)), nI_clamp (show i + 1 < 2 ^ 31 by omega), nI_clamp (show i + 2 < 2 ^ 31 by omega)]
  rw [a1, zbI_some]
  rw [a2, zbI_some, if_pos rfl]
theorem lc_16 (hi : i + 6 ≤ X.1) (hL : X.1 ≤ 3072) (hX : XP h w) (hM : MP h w) (V : WV w) : ∃ h' w', zrn X 15 m_L_law 644 [some (.ref 0), some (.ref 1), some (.ref 123), some (.int (nI i))] [] h = zrn X 15 m_L_law 1313 [some (.ref 0), some (.ref 1), some (.ref 123), some (.int (nI i))] [] h' ∧ XP h' w' ∧ MP h' w' ∧ WV w' := by
  have k : OK2 X m_X_safe m_M_safe [.int (X.2 (i + 1)), .int (X.2 (i + 2))] h := ok_safe hX hM V
  obtain ⟨r, h1, h2, w', a1, a2, a3, a4, a5⟩ := k
  refine ⟨h2, w', ?_, a3, a4, a5⟩
  rw [b_L_law_644]
  simp only [nI_add1, nI_a2, if_pos (zin_nI (show i + 1 < X.1 by omega) (show X.1 < 2 ^ 31 by omega)), if_pos (zin_nI (show i + 2 < X.1 by omega) (show X.1 < 2 ^ 31 by omega)), nI_clamp (show i + 1 < 2 ^ 31 by omega), nI_clamp (show i + 2 < 2 ^ 31 by omega)]
  rw [a1, zbI_some]
  rw [a2, zbI_some, if_pos rfl]
theorem lc_17 (hi : i + 6 ≤ X.1) (hL : X.1 ≤ 3072) (hX : XP h w) (hM : MP h w) (V : WV w) : ∃ h' w', zrn X 15 m_L_law 677 [some (.ref 0), some (.ref 1), some (.ref 123), some (.int (nI i))] [] h = zrn X 15 m_L_law 1313 [some (.ref 0), some (.ref 1), some (.ref 123), some (.int (nI i))] [] h' ∧ XP h' w' ∧ MP h' w' ∧ WV w' := by
  have k : OK2 X m_X_alone m_M_alone [.int (X.2 (i + 1)), .int (X.2 (i + 2))] h := ok_alone hX hM V
  obtain ⟨r, h1, h2, w', a1, a2, a3, a4, a5⟩ := k
  refine ⟨h2, w', ?_, a3, a4, a5⟩
  rw [b_L_law_677]
  simp only [nI_add1, nI_a2, if_pos (zin_nI (show i + 1 < X.1 by omega) (show X.1 < 2 ^ 31 by omega)), if_pos (zin_nI (show i + 2 < X.1 by omega) (show X.1 < 2 ^ 31 by omega)), nI_clamp (show i + 1 < 2 ^ 31 by omega), nI_clamp (show i + 2 < 2 ^ 31 by omega)]
  rw [a1, zbI_some]
  rw [a2, zbI_some, if_pos rfl]
theorem lc_18 (hi : i + 6 ≤ X.1) (hL : X.1 ≤ 3072) (hX : XP h w) (hM : MP h w) (V : WV w) : ∃ h' w', zrn X 15 m_L_law 710 [some (.ref 0), some (.ref 1), some (.ref 123), some (.int (nI i))] [] h = zrn X 15 m_L_law 1313 [some (.ref 0), some (.ref 1), some (.ref 123), some (.int (nI i))] [] h' ∧ XP h' w' ∧ MP h' w' ∧ WV w' := by
  have k : OK2 X m_X_turnAll m_M_turnAll [] h := ok_turnAll hX hM V
  obtain ⟨r, h1, h2, w', a1, a2, a3, a4, a5⟩ := k
  refine ⟨h2, w', ?_, a3, a4, a5⟩
  rw [b_L_law_710]
  rw [a1, zbI_some]
  rw [a2, zbI_some, if_pos rfl]
theorem lc_19 (hi : i + 6 ≤ X.1) (hL : X.1 ≤ 3072) (hX : XP h w) (hM : MP h w) (V : WV w) : ∃ h' w', zrn X 15 m_L_law 723 [some (.ref 0), some (.ref 1), some (.ref 123), some (.int (nI i))] [] h = zrn X 15 m_L_law 1313 [some (.ref 0), some (.ref 1), some (.ref 123), some (.int (nI i))] [] h' ∧ XP h' w' ∧ MP h' w' ∧ WV w' := by
  have k : OK2 X m_X_post m_M_post [.int (X.2 (i + 1))] h := ok_post hX hM V
  obtain ⟨r, h1, h2, w', a1, a2, a3, a4, a5⟩ := k
  refine ⟨h2, w', ?_, a3, a4, a5⟩
  rw [b_L_law_723]
  simp only [nI_add1, if_pos (zin_nI (show i + 1 < X.1 by omega) (show X.1 < 2 ^ 31 by omega)), nI_clamp (show i + 1 < 2 ^ 31 by omega)]
  rw [a1, zbI_some]
  rw [a2, zbI_some, if_pos rfl]
theorem lc_20 (hi : i + 6 ≤ X.1) (hL : X.1 ≤ 3072) (hX : XP h w) (hM : MP h w) (V : WV w) : ∃ h' w', zrn X 15 m_L_law 746 [some (.ref 0), some (.ref 1), some (.ref 123), some (.int (nI i))] [] h = zrn X 15 m_L_law 1313 [some (.ref 0), some (.ref 1), some (.ref 123), some (.int (nI i))] [] h' ∧ XP h' w' ∧ MP h' w' ∧ WV w' := by
  have k : OK2 X m_X_which m_M_which [.int (X.2 (i + 1)), .int (X.2 (i + 2))] h := ok_which hX hM V
  obtain ⟨r, h1, h2, w', a1, a2, a3, a4, a5⟩ := k
  refine ⟨h2, w', ?_, a3, a4, a5⟩
  rw [b_L_law_746]
  simp only [nI_add1, nI_a2, if_pos (zin_nI (show i + 1 < X.1 by omega) (show X.1 < 2 ^ 31 by omega)), if_pos (zin_nI (show i + 2 < X.1 by omega) (show X.1 < 2 ^ 31 by omega)), nI_clamp (show i + 1 < 2 ^ 31 by omega), nI_clamp (show i + 2 < 2 ^ 31 by omega)]
  rw [a1, zbI_some]
  rw [a2, zbI_some, if_pos rfl]
theorem lc_21 (hi : i + 6 ≤ X.1) (hL : X.1 ≤ 3072) (hX : XP h w) (hM : MP h w) (V : WV w) : ∃ h' w', zrn X 15 m_L_law 779 [some (.ref 0), some (.ref 1), some (.ref 123), some (.int (nI i))] [] h = zrn X 15 m_L_law 1313 [some (.ref 0), some (.ref 1), some (.ref 123), some (.int (nI i))] [] h' ∧ XP h' w' ∧ MP h' w' ∧ WV w' := by
  have k : OK2 X m_X_bestStep m_M_bestStep [.int (X.2 (i + 1))] h := ok_bestStep hX hM V
  obtain ⟨r, h1, h2, w', a1, a2, a3, a4, a5⟩ := k
  refine ⟨h2, w', ?_, a3, a4, a5⟩
  rw [b_L_law_779]
  simp only [nI_add1, if_pos (zin_nI (show i + 1 < X.1 by omega) (show X.1 < 2 ^ 31 by omega)), nI_clamp (show i + 1 < 2 ^ 31 by omega)]
  rw [a1, zbI_some]
  rw [a2, zbI_some, if_pos rfl]
theorem lc_22 (hi : i + 6 ≤ X.1) (hL : X.1 ≤ 3072) (hX : XP h w) (hM : MP h w) (V : WV w) : ∃ h' w', zrn X 15 m_L_law 802 [some (.ref 0), some (.ref 1), some (.ref 123), some (.int (nI i))] [] h = zrn X 15 m_L_law 1313 [some (.ref 0), some (.ref 1), some (.ref 123), some (.int (nI i))] [] h' ∧ XP h' w' ∧ MP h' w' ∧ WV w' := by
  have k : OK2 X m_X_two m_M_two [.int (X.2 (i + 1)), .int (X.2 (i + 2))] h := ok_two hX hM V
  obtain ⟨r, h1, h2, w', a1, a2, a3, a4, a5⟩ := k
  refine ⟨h2, w', ?_, a3, a4, a5⟩
  rw [b_L_law_802]
  simp only [nI_add1, nI_a2, if_pos (zin_nI (show i + 1 < X.1 by omega) (show X.1 < 2 ^ 31 by omega)), if_pos (zin_nI (show i + 2 < X.1 by omega) (show X.1 < 2 ^ 31 by omega)), nI_clamp (show i + 1 < 2 ^ 31 by omega), nI_clamp (show i + 2 < 2 ^ 31 by omega)]
  rw [a1, zbI_some]
  rw [a2, zbI_some, if_pos rfl]
theorem lc_23 (hi : i + 6 ≤ X.1) (hL : X.1 ≤ 3072) (hX : XP h w) (hM : MP h w) (V : WV w) : ∃ h' w', zrn X 15 m_L_law 835 [some (.ref 0), some (.ref 1), some (.ref 123), some (.int (nI i))] [] h = zrn X 15 m_L_law 1313 [some (.ref 0), some (.ref 1), some (.ref 123), some (.int (nI i))] [] h' ∧ XP h' w' ∧ MP h' w' ∧ WV w' := by
  have k : OK2L X m_X_slept m_M_slept [.int (X.2 (i + 1)), .int (X.2 (i + 2)), .int (X.2 (i + 3)), .int (X.2 (i + 4)), .int (X.2 (i + 5))] h := ok_slept hX hM V
  obtain ⟨r, h1, h2, w', a1, a2, a3, a4, a5⟩ := k
  refine ⟨h2, w', ?_, a3, a4, a5⟩
  rw [b_L_law_835]
  simp only [nI_add1, nI_a2, nI_a3, nI_a4, nI_a5, if_pos (zin_nI (show i + 1 < X.1 by omega) (show X.1 < 2 ^ 31 by omega)), if_pos (zin_nI (show i + 2 < X.1 by omega) (show X.1 < 2 ^ 31 by omega)), if_pos (zin_nI (show i + 3 < X.1 by omega) (show X.1 < 2 ^ 31 by omega)), if_pos (zin_nI (show i + 4 < X.1 by omega) (show X.1 < 2 ^ 31 by omega)), if_pos (zin_nI (show i + 5 < X.1 by omega) (show X.1 < 2 ^ 31 by omega)), nI_clamp (show i + 1 < 2 ^ 31 by omega), nI_clamp (show i + 2 < 2 ^ 31 by omega), nI_clamp (show i + 3 < 2 ^ 31 by omega), nI_clamp (show i + 4 < 2 ^ 31 by omega), nI_clamp (show i + 5 < 2 ^ 31 by omega)]
  rw [a1, zbL_some]
  rw [a2, zbL_some, if_pos lg_rr]
theorem lc_24 (hi : i + 6 ≤ X.1) (hL : X.1 ≤ 3072) (hX : XP h w) (hM : MP h w) (V : WV w) : ∃ h' w', zrn X 15 m_L_law 899 [some (.ref 0), some (.ref 1), some (.ref 123), some (.int (nI i))] [] h = zrn X 15 m_L_law 1313 [some (.ref 0), some (.ref 1), some (.ref 123), some (.int (nI i))] [] h' ∧ XP h' w' ∧ MP h' w' ∧ WV w' := by
  have k : OK2 X m_X_busiest m_M_busiest [.int (X.2 (i + 1))] h := ok_busiest hX hM V
  obtain ⟨r, h1, h2, w', a1, a2, a3, a4, a5⟩ := k
  refine ⟨h2, w', ?_, a3, a4, a5⟩
  rw [b_L_law_899]
  simp only [nI_add1, if_pos (zin_nI (show i + 1 < X.1 by omega) (show X.1 < 2 ^ 31 by omega)), nI_clamp (show i + 1 < 2 ^ 31 by omega)]
  rw [a1, zbI_some]
  rw [a2, zbI_some, if_pos rfl]
theorem lc_25 (hi : i + 6 ≤ X.1) (hL : X.1 ≤ 3072) (hX : XP h w) (hM : MP h w) (V : WV w) : ∃ h' w', zrn X 15 m_L_law 922 [some (.ref 0), some (.ref 1), some (.ref 123), some (.int (nI i))] [] h = zrn X 15 m_L_law 1313 [some (.ref 0), some (.ref 1), some (.ref 123), some (.int (nI i))] [] h' ∧ XP h' w' ∧ MP h' w' ∧ WV w' := by
  have k : OK2 X m_X_twos m_M_twos [.int (X.2 (i + 1))] h := ok_twos hX hM V
  obtain ⟨r, h1, h2, w', a1, a2, a3, a4, a5⟩ := k
  refine ⟨h2, w', ?_, a3, a4, a5⟩
  rw [b_L_law_922]
  simp only [nI_add1, if_pos (zin_nI (show i + 1 < X.1 by omega) (show X.1 < 2 ^ 31 by omega)), nI_clamp (show i + 1 < 2 ^ 31 by omega)]
  rw [a1, zbI_some]
  rw [a2, zbI_some, if_pos rfl]
theorem lc_26 (hi : i + 6 ≤ X.1) (hL : X.1 ≤ 3072) (hX : XP h w) (hM : MP h w) (V : WV w) : ∃ h' w', zrn X 15 m_L_law 945 [some (.ref 0), some (.ref 1), some (.ref 123), some (.int (nI i))] [] h = zrn X 15 m_L_law 1313 [some (.ref 0), some (.ref 1), some (.ref 123), some (.int (nI i))] [] h' ∧ XP h' w' ∧ MP h' w' ∧ WV w' := by
  have k : OK2 X m_X_nearest m_M_nearest [.int (X.2 (i + 1))] h := ok_nearest hX hM V
  obtain ⟨r, h1, h2, w', a1, a2, a3, a4, a5⟩ := k
  refine ⟨h2, w', ?_, a3, a4, a5⟩
  rw [b_L_law_945]
  simp only [nI_add1, if_pos (zin_nI (show i + 1 < X.1 by omega) (show X.1 < 2 ^ 31 by omega)), nI_clamp (show i + 1 < 2 ^ 31 by omega)]
  rw [a1, zbI_some]
  rw [a2, zbI_some, if_pos rfl]
theorem lc_27 (hi : i + 6 ≤ X.1) (hL : X.1 ≤ 3072) (hX : XP h w) (hM : MP h w) (V : WV w) : ∃ h' w', zrn X 15 m_L_law 968 [some (.ref 0), some (.ref 1), some (.ref 123), some (.int (nI i))] [] h = zrn X 15 m_L_law 1313 [some (.ref 0), some (.ref 1), some (.ref 123), some (.int (nI i))] [] h' ∧ XP h' w' ∧ MP h' w' ∧ WV w' := by
  have k : OK2 X m_X_lines m_M_lines [] h := ok_lines hX hM V
  obtain ⟨r, h1, h2, w', a1, a2, a3, a4, a5⟩ := k
  refine ⟨h2, w', ?_, a3, a4, a5⟩
  rw [b_L_law_968]
  rw [a1, zbI_some]
  rw [a2, zbI_some, if_pos rfl]
theorem lc_28 (hi : i + 6 ≤ X.1) (hL : X.1 ≤ 3072) (hX : XP h w) (hM : MP h w) (V : WV w) : ∃ h' w', zrn X 15 m_L_law 981 [some (.ref 0), some (.ref 1), some (.ref 123), some (.int (nI i))] [] h = zrn X 15 m_L_law 1313 [some (.ref 0), some (.ref 1), some (.ref 123), some (.int (nI i))] [] h' ∧ XP h' w' ∧ MP h' w' ∧ WV w' := by
  have k : OK2 X m_X_hidden m_M_hidden [] h := ok_hidden hX hM V
  obtain ⟨r, h1, h2, w', a1, a2, a3, a4, a5⟩ := k
  refine ⟨h2, w', ?_, a3, a4, a5⟩
  rw [b_L_law_981]
  rw [a1, zbI_some]
  rw [a2, zbI_some, if_pos rfl]
theorem lc_29 (hi : i + 6 ≤ X.1) (hL : X.1 ≤ 3072) (hX : XP h w) (hM : MP h w) (V : WV w) : ∃ h' w', zrn X 15 m_L_law 994 [some (.ref 0), some (.ref 1), some (.ref 123), some (.int (nI i))] [] h = zrn X 15 m_L_law 1313 [some (.ref 0), some (.ref 1), some (.ref 123), some (.int (nI i))] [] h' ∧ XP h' w' ∧ MP h' w' ∧ WV w' := by
  have k : OK2 X m_X_longest m_M_longest [] h := ok_longest hX hM V
  obtain ⟨r, h1, h2, w', a1, a2, a3, a4, a5⟩ := k
  refine ⟨h2, w', ?_, a3, a4, a5⟩
  rw [b_L_law_994]
  rw [a1, zbI_some]
  rw [a2, zbI_some, if_pos rfl]
theorem lc_30 (hi : i + 6 ≤ X.1) (hL : X.1 ≤ 3072) (hX : XP h w) (hM : MP h w) (V : WV w) : ∃ h' w', zrn X 15 m_L_law 1007 [some (.ref 0), some (.ref 1), some (.ref 123), some (.int (nI i))] [] h = zrn X 15 m_L_law 1313 [some (.ref 0), some (.ref 1), some (.ref 123), some (.int (nI i))] [] h' ∧ XP h' w' ∧ MP h' w' ∧ WV w' := by
  have k : OK2 X m_X_walks m_M_walks [.int (X.2 (i + 1)), .int (X.2 (i + 2)), .int (X.2 (i + 3))] h := ok_walks hX hM V
  obtain ⟨r, h1, h2, w', a1, a2, a3, a4, a5⟩ := k
  refine ⟨h2, w', ?_, a3, a4, a5⟩
  rw [b_L_law_1007]
  simp only [nI_add1, nI_a2, nI_a3, if_pos (zin_nI (show i + 1 < X.1 by omega) (show X.1 < 2 ^ 31 by omega)), if_pos (zin_nI (show i + 2 < X.1 by omega) (show X.1 < 2 ^ 31 by omega)), if_pos (zin_nI (show i + 3 < X.1 by omega) (show X.1 < 2 ^ 31 by omega)), nI_clamp (show i + 1 < 2 ^ 31 by omega), nI_clamp (show i + 2 < 2 ^ 31 by omega), nI_clamp (show i + 3 < 2 ^ 31 by omega)]
  rw [a1, zbI_some]
  rw [a2, zbI_some, if_pos rfl]
theorem lc_31 (hi : i + 6 ≤ X.1) (hL : X.1 ≤ 3072) (hX : XP h w) (hM : MP h w) (V : WV w) : ∃ h' w', zrn X 15 m_L_law 1050 [some (.ref 0), some (.ref 1), some (.ref 123), some (.int (nI i))] [] h = zrn X 15 m_L_law 1313 [some (.ref 0), some (.ref 1), some (.ref 123), some (.int (nI i))] [] h' ∧ XP h' w' ∧ MP h' w' ∧ WV w' := by
  have k : OK2 X m_X_meets m_M_meets [.int (X.2 (i + 1)), .int (X.2 (i + 2))] h := ok_meets hX hM V
  obtain ⟨r, h1, h2, w', a1, a2, a3, a4, a5⟩ := k
  refine ⟨h2, w', ?_, a3, a4, a5⟩
  rw [b_L_law_1050]
  simp only [nI_add1, nI_a2, if_pos (zin_nI (show i + 1 < X.1 by omega) (show X.1 < 2 ^ 31 by omega)), if_pos (zin_nI (show i + 2 < X.1 by omega) (show X.1 < 2 ^ 31 by omega)), nI_clamp (show i + 1 < 2 ^ 31 by omega), nI_clamp (show i + 2 < 2 ^ 31 by omega)]
  rw [a1, zbI_some]
  rw [a2, zbI_some, if_pos rfl]
theorem lc_32 (hi : i + 6 ≤ X.1) (hL : X.1 ≤ 3072) (hX : XP h w) (hM : MP h w) (V : WV w) : ∃ h' w', zrn X 15 m_L_law 1083 [some (.ref 0), some (.ref 1), some (.ref 123), some (.int (nI i))] [] h = zrn X 15 m_L_law 1313 [some (.ref 0), some (.ref 1), some (.ref 123), some (.int (nI i))] [] h' ∧ XP h' w' ∧ MP h' w' ∧ WV w' := by
  have k : OK2 X m_X_leave m_M_leave [.int (X.2 (i + 1)), .int (X.2 (i + 2))] h := ok_leave hX hM V
  obtain ⟨r, h1, h2, w', a1, a2, a3, a4, a5⟩ := k
  refine ⟨h2, w', ?_, a3, a4, a5⟩
  rw [b_L_law_1083]
  simp only [nI_add1, nI_a2, if_pos (zin_nI (show i + 1 < X.1 by omega) (show X.1 < 2 ^ 31 by omega)), if_pos (zin_nI (show i + 2 < X.1 by omega) (show X.1 < 2 ^ 31 by omega)), nI_clamp (show i + 1 < 2 ^ 31 by omega), nI_clamp (show i + 2 < 2 ^ 31 by omega)]
  rw [a1, zbI_some]
  rw [a2, zbI_some, if_pos rfl]
theorem lc_33 (hi : i + 6 ≤ X.1) (hL : X.1 ≤ 3072) (hX : XP h w) (hM : MP h w) (V : WV w) : ∃ h' w', zrn X 15 m_L_law 1116 [some (.ref 0), some (.ref 1), some (.ref 123), some (.int (nI i))] [] h = zrn X 15 m_L_law 1313 [some (.ref 0), some (.ref 1), some (.ref 123), some (.int (nI i))] [] h' ∧ XP h' w' ∧ MP h' w' ∧ WV w' := by
  have k : OK2 X m_X_most m_M_most [.int (X.2 (i + 1)), .int (X.2 (i + 2))] h := ok_most hX hM V
  obtain ⟨r, h1, h2, w', a1, a2, a3, a4, a5⟩ := k
  refine ⟨h2, w', ?_, a3, a4, a5⟩
  rw [b_L_law_1116]
  simp only [nI_add1, nI_a2, if_pos (zin_nI (show i + 1 < X.1 by omega) (show X.1 < 2 ^ 31 by omega)), if_pos (zin_nI (show i + 2 < X.1 by omega) (show X.1 < 2 ^ 31 by omega)), nI_clamp (show i + 1 < 2 ^ 31 by omega), nI_clamp (show i + 2 < 2 ^ 31 by omega)]
  rw [a1, zbI_some]
  rw [a2, zbI_some, if_pos rfl]
theorem lc_34 (hi : i + 6 ≤ X.1) (hL : X.1 ≤ 3072) (hX : XP h w) (hM : MP h w) (V : WV w) : ∃ h' w', zrn X 15 m_L_law 1149 [some (.ref 0), some (.ref 1), some (.ref 123), some (.int (nI i))] [] h = zrn X 15 m_L_law 1313 [some (.ref 0), some (.ref 1), some (.ref 123), some (.int (nI i))] [] h' ∧ XP h' w' ∧ MP h' w' ∧ WV w' := by
  have k : OK2 X m_X_quiet m_M_quiet [.int (X.2 (i + 1))] h := ok_quiet hX hM V
  obtain ⟨r, h1, h2, w', a1, a2, a3, a4, a5⟩ := k
  refine ⟨h2, w', ?_, a3, a4, a5⟩
  rw [b_L_law_1149]
  simp only [nI_add1, if_pos (zin_nI (show i + 1 < X.1 by omega) (show X.1 < 2 ^ 31 by omega)), nI_clamp (show i + 1 < 2 ^ 31 by omega)]
  rw [a1, zbI_some]
  rw [a2, zbI_some, if_pos rfl]
theorem lc_35 (hi : i + 6 ≤ X.1) (hL : X.1 ≤ 3072) (hX : XP h w) (hM : MP h w) (V : WV w) : ∃ h' w', zrn X 15 m_L_law 1172 [some (.ref 0), some (.ref 1), some (.ref 123), some (.int (nI i))] [] h = zrn X 15 m_L_law 1313 [some (.ref 0), some (.ref 1), some (.ref 123), some (.int (nI i))] [] h' ∧ XP h' w' ∧ MP h' w' ∧ WV w' := by
  have k : OK2 X m_X_row m_M_row [.int (X.2 (i + 1))] h := ok_row hX hM V
  obtain ⟨r, h1, h2, w', a1, a2, a3, a4, a5⟩ := k
  refine ⟨h2, w', ?_, a3, a4, a5⟩
  rw [b_L_law_1172]
  simp only [nI_add1, if_pos (zin_nI (show i + 1 < X.1 by omega) (show X.1 < 2 ^ 31 by omega)), nI_clamp (show i + 1 < 2 ^ 31 by omega)]
  rw [a1, zbI_some]
  rw [a2, zbI_some, if_pos rfl]
theorem lc_36 (hi : i + 6 ≤ X.1) (hL : X.1 ≤ 3072) (hX : XP h w) (hM : MP h w) (V : WV w) : ∃ h' w', zrn X 15 m_L_law 1195 [some (.ref 0), some (.ref 1), some (.ref 123), some (.int (nI i))] [] h = zrn X 15 m_L_law 1313 [some (.ref 0), some (.ref 1), some (.ref 123), some (.int (nI i))] [] h' ∧ XP h' w' ∧ MP h' w' ∧ WV w' := by
  have k : OK2 X m_X_judge m_M_judge [] h := ok_judge hX hM V
  obtain ⟨r, h1, h2, w', a1, a2, a3, a4, a5⟩ := k
  refine ⟨h2, w', ?_, a3, a4, a5⟩
  rw [b_L_law_1195]
  rw [a1, zbI_some]
  rw [a2, zbI_some, if_pos rfl]
theorem lc_37 (hi : i + 6 ≤ X.1) (hL : X.1 ≤ 3072) (hX : XP h w) (hM : MP h w) (V : WV w) : ∃ h' w', zrn X 15 m_L_law 1208 [some (.ref 0), some (.ref 1), some (.ref 123), some (.int (nI i))] [] h = zrn X 15 m_L_law 1313 [some (.ref 0), some (.ref 1), some (.ref 123), some (.int (nI i))] [] h' ∧ XP h' w' ∧ MP h' w' ∧ WV w' := by
  have k : OK2 X m_X_clear m_M_clear [] h := ok_clear hX hM V
  obtain ⟨r, h1, h2, w', a1, a2, a3, a4, a5⟩ := k
  refine ⟨h2, w', ?_, a3, a4, a5⟩
  rw [b_L_law_1208]
  rw [a1, zbI_some]
  rw [a2, zbI_some, if_pos rfl]
theorem lc_38 (hi : i + 6 ≤ X.1) (hL : X.1 ≤ 3072) (hX : XP h w) (hM : MP h w) (V : WV w) : ∃ h' w', zrn X 15 m_L_law 1221 [some (.ref 0), some (.ref 1), some (.ref 123), some (.int (nI i))] [] h = zrn X 15 m_L_law 1313 [some (.ref 0), some (.ref 1), some (.ref 123), some (.int (nI i))] [] h' ∧ XP h' w' ∧ MP h' w' ∧ WV w' := by
  have k : OK2 X m_X_lots m_M_lots [.int (X.2 (i + 1)), .int (X.2 (i + 2)), .int (X.2 (i + 3))] h := ok_lots hX hM V
  obtain ⟨r, h1, h2, w', a1, a2, a3, a4, a5⟩ := k
  refine ⟨h2, w', ?_, a3, a4, a5⟩
  rw [b_L_law_1221]
  simp only [nI_add1, nI_a2, nI_a3, if_pos (zin_nI (show i + 1 < X.1 by omega) (show X.1 < 2 ^ 31 by omega)), if_pos (zin_nI (show i + 2 < X.1 by omega) (show X.1 < 2 ^ 31 by omega)), if_pos (zin_nI (show i + 3 < X.1 by omega) (show X.1 < 2 ^ 31 by omega)), nI_clamp (show i + 1 < 2 ^ 31 by omega), nI_clamp (show i + 2 < 2 ^ 31 by omega), nI_clamp (show i + 3 < 2 ^ 31 by omega)]
  rw [a1, zbI_some]
  rw [a2, zbI_some, if_pos rfl]
theorem lc_39 (hi : i + 6 ≤ X.1) (hL : X.1 ≤ 3072) (hX : XP h w) (hM : MP h w) (V : WV w) : ∃ h' w', zrn X 15 m_L_law 1264 [some (.ref 0), some (.ref 1), some (.ref 123), some (.int (nI i))] [] h = zrn X 15 m_L_law 1313 [some (.ref 0), some (.ref 1), some (.ref 123), some (.int (nI i))] [] h' ∧ XP h' w' ∧ MP h' w' ∧ WV w' := by
  have k : OK2 X m_X_image m_M_image [] h := ok_image hX hM V
  obtain ⟨r, h1, h2, w', a1, a2, a3, a4, a5⟩ := k
  refine ⟨h2, w', ?_, a3, a4, a5⟩
  rw [b_L_law_1264]
  rw [a1, zbI_some]
  rw [a2, zbI_some, if_pos rfl]
theorem lc_40 (hi : i + 6 ≤ X.1) (hL : X.1 ≤ 3072) (hX : XP h w) (hM : MP h w) (V : WV w) : ∃ h' w', zrn X 15 m_L_law 1277 [some (.ref 0), some (.ref 1), some (.ref 123), some (.int (nI i))] [] h = zrn X 15 m_L_law 1313 [some (.ref 0), some (.ref 1), some (.ref 123), some (.int (nI i))] [] h' ∧ XP h' w' ∧ MP h' w' ∧ WV w' := by
  have k : OK2 X m_X_restore m_M_restore [] h := ok_restore hX hM V
  obtain ⟨r, h1, h2, w', a1, a2, a3, a4, a5⟩ := k
  refine ⟨h2, w', ?_, a3, a4, a5⟩
  rw [b_L_law_1277]
  rw [a1, zbI_some]
  rw [a2, zbI_some, if_pos rfl]
theorem lc_41 (hi : i + 6 ≤ X.1) (hL : X.1 ≤ 3072) (hX : XP h w) (hM : MP h w) (V : WV w) : ∃ h' w', zrn X 15 m_L_law 1290 [some (.ref 0), some (.ref 1), some (.ref 123), some (.int (nI i))] [] h = zrn X 15 m_L_law 1313 [some (.ref 0), some (.ref 1), some (.ref 123), some (.int (nI i))] [] h' ∧ XP h' w' ∧ MP h' w' ∧ WV w' := by
  have k : OK2 X m_X_count m_M_count [.int (X.2 (i + 1))] h := ok_count hX hM V
  obtain ⟨r, h1, h2, w', a1, a2, a3, a4, a5⟩ := k
  refine ⟨h2, w', ?_, a3, a4, a5⟩
  rw [b_L_law_1290]
  simp only [nI_add1, if_pos (zin_nI (show i + 1 < X.1 by omega) (show X.1 < 2 ^ 31 by omega)), nI_clamp (show i + 1 < 2 ^ 31 by omega)]
  rw [a1, zbI_some]
  rw [a2, zbI_some, if_pos rfl]
theorem law_1 (hi : i + 6 ≤ X.1) (hL : X.1 ≤ 3072) : zrn X 15 m_L_law 1313 [some (.ref 0), some (.ref 1), some (.ref 123), some (.int (nI i))] [] h = zrn X 15 m_L_law 18 [some (.ref 0), some (.ref 1), some (.ref 123), some (.int (nI (i + 6)))] [] h := by
  rw [b_L_law_1313, nI_a6]
theorem law_end {L i : Nat} (hL : L ≤ 3072) (hi : i ≤ 3072) : (Int32.ofNat L - 6 < nI i) ↔ L < i + 6 := by
  rw [Int32.lt_iff_toInt_lt, ofNat_nI, Int32.toInt_sub, nI_toInt (by omega), nI_toInt (by omega), show (6 : Int32).toInt = 6 by decide, Int.bmod_eq_of_le (by omega) (by omega)]
  omega
/-- one call -/
theorem law_c (hi : i + 6 ≤ X.1) (hL : X.1 ≤ 3072) (hX : XP h w) (hM : MP h w) (V : WV w) : ∃ h' w', zrn X 15 m_L_law 18 [some (.ref 0), some (.ref 1), some (.ref 123), some (.int (nI i))] [] h = zrn X 15 m_L_law 1313 [some (.ref 0), some (.ref 1), some (.ref 123), some (.int (nI i))] [] h' ∧ XP h' w' ∧ MP h' w' ∧ WV w' := by
  rw [b_L_law_18, if_neg (fun z => absurd ((law_end hL (by omega)).mp z) (by omega)), if_pos (zin_nI (show i < X.1 by omega) (by omega))]
  generalize (X.2 (Int32.toNatClampNeg (nI i))) &&& 63 = v
  by_cases q0 : v = 0
  · rw [if_pos q0]; exact lc_0 hi hL hX hM V
  rw [if_neg q0]
  by_cases q1 : v = 1
  · rw [if_pos q1]; exact lc_1 hi hL hX hM V
  rw [if_neg q1]
  by_cases q2 : v = 2
  · rw [if_pos q2]; exact lc_2 hi hL hX hM V
  rw [if_neg q2]
  by_cases q3 : v = 3
  · rw [if_pos q3]; exact lc_3 hi hL hX hM V
  rw [if_neg q3]
  by_cases q4 : v = 4
  · rw [if_pos q4]; exact lc_4 hi hL hX hM V
  rw [if_neg q4]
  by_cases q5 : v = 5
  · rw [if_pos q5]; exact lc_5 hi hL hX hM V
  rw [if_neg q5]
  by_cases q6 : v = 6
  · rw [if_pos q6]; exact lc_6 hi hL hX hM V
  rw [if_neg q6]
  by_cases q7 : v = 7
  · rw [if_pos q7]; exact lc_7 hi hL hX hM V
  rw [if_neg q7]
  by_cases q8 : v = 8
  · rw [if_pos q8]; exact lc_8 hi hL hX hM V
  rw [if_neg q8]
  by_cases q9 : v = 9
  · rw [if_pos q9]; exact lc_9 hi hL hX hM V
  rw [if_neg q9]
  by_cases q10 : v = 10
  · rw [if_pos q10]; exact lc_10 hi hL hX hM V
  rw [if_neg q10]
  by_cases q11 : v = 11
  · rw [if_pos q11]; exact lc_11 hi hL hX hM V
  rw [if_neg q11]
  by_cases q12 : v = 12
  · rw [if_pos q12]; exact lc_12 hi hL hX hM V
  rw [if_neg q12]
  by_cases q13 : v = 13
  · rw [if_pos q13]; exact lc_13 hi hL hX hM V
  rw [if_neg q13]
  by_cases q14 : v = 14
  · rw [if_pos q14]; exact lc_14 hi hL hX hM V
  rw [if_neg q14]
  by_cases q15 : v = 15
  · rw [if_pos q15]; exact lc_15 hi hL hX hM V
  rw [if_neg q15]
  by_cases q16 : v = 16
  · rw [if_pos q16]; exact lc_16 hi hL hX hM V
  rw [if_neg q16]
  by_cases q17 : v = 17
  · rw [if_pos q17]; exact lc_17 hi hL hX hM V
  rw [if_neg q17]
  by_cases q18 : v = 18
  · rw [if_pos q18]; exact lc_18 hi hL hX hM V
  rw [if_neg q18]
  by_cases q19 : v = 19
  · rw [if_pos q19]; exact lc_19 hi hL hX hM V
  rw [if_neg q19]
  by_cases q20 : v = 20
  · rw [if_pos q20]; exact lc_20 hi hL hX hM V
  rw [if_neg q20]
  by_cases q21 : v = 21
  · rw [if_pos q21]; exact lc_21 hi hL hX hM V
  rw [if_neg q21]
  by_cases q22 : v = 22
  · rw [if_pos q22]; exact lc_22 hi hL hX hM V
  rw [if_neg q22]
  by_cases q23 : v = 23
  · rw [if_pos q23]; exact lc_23 hi hL hX hM V
  rw [if_neg q23]
  by_cases q24 : v = 24
  · rw [if_pos q24]; exact lc_24 hi hL hX hM V
  rw [if_neg q24]
  by_cases q25 : v = 25
  · rw [if_pos q25]; exact lc_25 hi hL hX hM V
  rw [if_neg q25]
  by_cases q26 : v = 26
  · rw [if_pos q26]; exact lc_26 hi hL hX hM V
  rw [if_neg q26]
  by_cases q27 : v = 27
  · rw [if_pos q27]; exact lc_27 hi hL hX hM V
  rw [if_neg q27]
  by_cases q28 : v = 28
  · rw [if_pos q28]; exact lc_28 hi hL hX hM V
  rw [if_neg q28]
  by_cases q29 : v = 29
  · rw [if_pos q29]; exact lc_29 hi hL hX hM V
  rw [if_neg q29]
  by_cases q30 : v = 30
  · rw [if_pos q30]; exact lc_30 hi hL hX hM V
  rw [if_neg q30]
  by_cases q31 : v = 31
  · rw [if_pos q31]; exact lc_31 hi hL hX hM V
  rw [if_neg q31]
  by_cases q32 : v = 32
  · rw [if_pos q32]; exact lc_32 hi hL hX hM V
  rw [if_neg q32]
  by_cases q33 : v = 33
  · rw [if_pos q33]; exact lc_33 hi hL hX hM V
  rw [if_neg q33]
  by_cases q34 : v = 34
  · rw [if_pos q34]; exact lc_34 hi hL hX hM V
  rw [if_neg q34]
  by_cases q35 : v = 35
  · rw [if_pos q35]; exact lc_35 hi hL hX hM V
  rw [if_neg q35]
  by_cases q36 : v = 36
  · rw [if_pos q36]; exact lc_36 hi hL hX hM V
  rw [if_neg q36]
  by_cases q37 : v = 37
  · rw [if_pos q37]; exact lc_37 hi hL hX hM V
  rw [if_neg q37]
  by_cases q38 : v = 38
  · rw [if_pos q38]; exact lc_38 hi hL hX hM V
  rw [if_neg q38]
  by_cases q39 : v = 39
  · rw [if_pos q39]; exact lc_39 hi hL hX hM V
  rw [if_neg q39]
  by_cases q40 : v = 40
  · rw [if_pos q40]; exact lc_40 hi hL hX hM V
  rw [if_neg q40]
  by_cases q41 : v = 41
  · rw [if_pos q41]; exact lc_41 hi hL hX hM V
  rw [if_neg q41]
  exact ⟨h, w, rfl, hX, hM, V⟩
theorem law_loop (hL : X.1 ≤ 3072) : ∀ (m i : Nat) (h : zH) (w : zW), i + 6 * m ≤ X.1 → X.1 < i + 6 * m + 6 → XP h w → MP h w → WV w → ∃ h', zrn X 15 m_L_law 18 [some (.ref 0), some (.ref 1), some (.ref 123), some (.int (nI i))] [] h = some (some (.int 1), h') := by
  intro m
  induction m with
  | zero =>
    intro i h w h1 h2 hX hM V
    exact ⟨h, by rw [b_L_law_18, if_pos ((law_end hL (by omega)).mpr (by omega))]⟩
  | succ m ih =>
    intro i h w h1 h2 hX hM V
    obtain ⟨h3, w3, a1, a2, a3, a4⟩ := law_c (X := X) (i := i) (by omega) hL hX hM V
    obtain ⟨h4, b1⟩ := ih (i + 6) h3 w3 (by omega) (by omega) a2 a3 a4
    exact ⟨h4, by rw [a1, law_1 (by omega) hL, b1]⟩
end z69
