/-! hill -/
section z66
variable {X : zX} {h h0 : zH} {w : zW} {N : Nat} {L : zA}
theorem nI_1le {j : Nat} (h : j < 100) : ¬ nI (j + 1) ≤ 0 := nI_ge (b := j + 1) (a := 0) (by omega) (by omega)
theorem m_exF (hN : N ≤ 96) {K0 : zH} {n : Nat} (hn4 : 4 * n ≤ N) (hend : ¬ plF N L n < N) : ∀ (F j : Nat) (x : zN) (h : zH), j < n → N ≤ plF N L j + F → h.1 123 15 = nI n → (∀ j, j < n → TD h N L j (plF N L j) ∧ gst N L (plF N L j) = true ∧ plF N L j < N) → TH K0 x.1 h → h.1 123 6 = nI x.2 → NV x → ∃ h', zrn X 8 m_M_hill 79 [some (.ref 123), some (.int (nI j))] [] h = some (some (.int (exF N L F (plF N L j) j x).1), h') ∧ (¬ (exF N L F (plF N L j) j x).1 ≤ 0 → ∃ h1 : zH, h' = (zup h1.1 123 27 0, h1.2) ∧ TH K0 (exF N L F (plF N L j) j x).2.1 h1 ∧ h1.1 123 6 = nI (exF N L F (plF N L j) j x).2.2 ∧ NV (exF N L F (plF N L j) j x).2) ∧ ((exF N L F (plF N L j) j x).1 ≤ 0 → BK K0 h') := by
  intro F
  induction F with
  | zero =>
    intro j x h hj hF h15 D T hn V
    have := (D j hj).2.2
    omega
  | succ F ih =>
    intro j x h hj hF h15 D T hn V
    obtain ⟨D1, D2, D3⟩ := D j hj
    obtain ⟨h1, a1, a2, a3, a4⟩ := m_cms (X := X) (k := j) (by omega) D2 D1 T hn V
    have V1 := cms_V D2 V
    have E : ∀ b i, ¬ pE b i → h1.1 b i = h.1 b i := a4
    rw [b_M_hill_79, h15, if_neg (nI_ge (by omega) (by omega)), a1, zbI_some, b10, nI_add1, exF_s]
    by_cases ok : (cms N L x (plF N L j)).1 = true
    · rw [if_pos ok, if_pos ok]
      have D' : ∀ j, j < n → TD h1 N L j (plF N L j) ∧ gst N L (plF N L j) = true ∧ plF N L j < N := fun q hq => by
        obtain ⟨u1, u2, u3⟩ := D q hq
        exact ⟨u1.of (E 131 q (by unfold pE; omega)) (E 132 q (by unfold pE; omega)) (fun r _ _ => E 133 r (by unfold pE; omega)), u2, u3⟩
      have h15' : h1.1 123 15 = nI n := (E 123 15 (by unfold pE; omega)).trans h15
      have ep : plF N L (j + 1) = nxt N L (plF N L j) := rfl
      by_cases l : nxt N L (plF N L j) < N
      · have hj1 : j + 1 < n := by
          by_cases e : j + 1 = n
          · rw [← e, ep] at hend; exact absurd l hend
          · omega
        rw [if_pos l, ← ep]
        have : plF N L j < nxt N L (plF N L j) := by unfold nxt; omega
        exact ih (j + 1) (cms N L x (plF N L j)).2 h1 hj1 (by rw [ep]; omega) h15' D' a2 a3 V1
      · have hj1 : j + 1 = n := by
          by_cases e : j + 1 = n
          · exact e
          · have := (D' (j + 1) (by omega)).2.2
            rw [ep] at this
            exact absurd this l
        rw [if_neg l]
        refine ⟨(zup h1.1 123 27 0, h1.2), ?_, fun _ => ⟨h1, rfl, a2, a3, V1⟩, fun z => absurd z (nI_1le (by omega))⟩
        rw [b_M_hill_79, h15', ← hj1, if_pos (nI_le (by omega) (by omega)), zup_ns (show (15 : Nat) ≠ 27 by decide), h15', ← hj1]
    · rw [if_neg ok, if_neg ok]
      obtain ⟨h3, b1, b2, b3⟩ := a2.bkF (X := X)
      have b0 : cms N L x (plF N L j) = (false, x) ∨ True := Or.inr trivial
      refine ⟨h3, ?_, fun z => absurd (Int32.le_of_lt (neg2000 (plF N L j) (by omega)).1) z, fun _ => b2⟩
      rw [b1, zbV_some, if_pos (zin_nI (show j < 49 by omega) (by decide)), nI_clamp (by omega), b3 131 j (by decide), E 131 j (by unfold pE; omega), D1.1]
theorem m_thinkF {h1 : zH} (a1 : zcf X m_M_think [.ref 123] h = some (none, h1)) : ∀ b j, b ≠ 134 → ¬ (b = 123 ∧ (j = 22 ∨ j = 23)) → h1.1 b j = h.1 b j := by
  rw [e_M_think] at a1
  obtain ⟨h2, w1, T⟩ := m_takeAll (X := X) (h := h) (q := 133) (by decide) zc_134
  rw [w1, zbV_some] at a1
  obtain ⟨t1, t2, t3, t4, t5⟩ := T
  have : h2 = h1 := by injection a1 with a1; injection a1
  rw [← this]
  exact fun b j h1 h2 => t5 b j h1 h2
theorem xp_txt (R : XP h w) : XP (zup h.1 71 1 0, h.2) (uT w 0 (wf w)) := R.uT (by dsimp only; rw [zup_eq]; rfl) (fun j hj => absurd hj (by omega)) fun b j _ h1 _ _ => by
  dsimp only
  exact zup_nc h1
theorem mp_txt (R : MP h w) {h' : zH} (F : FM pP h h') : MP (zup h'.1 123 12 0, h'.2) (uT w 0 (wf w)) := by
  have e : ∀ b j, ¬ pP b j → ¬ (b = 123 ∧ j = 12) → zup h'.1 123 12 0 b j = h.1 b j := fun b j h1 h2 => by
    have := F b j h1
    unfold zup
    rw [if_neg h2]
    exact this
  refine R.uT (by dsimp only; rw [zup_eq]; rfl) (fun j hj => absurd hj (by omega)) ⟨e 123 0 (by unfold pP; omega) (by omega), e 123 6 (by unfold pP; omega) (by omega), fun b j h1 h2 => e b j (by unfold pP; omega) (by omega)⟩ fun b j _ h2 h3 hS => e b j (fun z => hS (by unfold pP at z; unfold pS; omega)) h3
theorem wv_txt (V : WV w) : WV (uT w 0 (wf w)) := V.uT (by omega) fun j hj => absurd hj (by omega)
theorem pP_m {b j : Nat} (z : pP b j) : pMa b j := by unfold pP at z; unfold pMa; omega
theorem ok_hill (hX : XP h w) (hM : MP h w) (V : WV w) : OK2 X m_X_hill m_M_hill [] h := by
  have hN : wm w ≤ 96 := V.2.2.2.2.1
  have h6 : tn (wt w) ≤ 6 := V.1.1.1
  have TXh : TX h (wm w) (wf w) := hX.2.2.2.1
  obtain ⟨h1, a1, a2, a3, a4⟩ := s_become (X := X) hH_8 hH_2 (by decide) hX.1.1 h6
  have F1 : FM pXq h h1 := a4.fm fun b j h1 h2 => Or.inl ⟨h1, h2⟩
  have n8 : h1.1 8 6 = nI w.1.2 := a3.trans hX.1.2
  have start : ∀ h1' H : zH, zup h1'.1 123 7 0 = H.1 → h1'.2 = H.2 → MP H w → ∃ hs : zH, zcf X m_M_hill [.ref 123] h1' = zrn X 8 m_M_hill 20 [some (.ref 123), none] [] hs ∧ FM pP H hs ∧ MT hs (wm w) (wf w) ∧ STm hs (false, 0) ∧ hs.1 123 15 = nI 0 := by
    intro h1' H i1 i2 R
    refine ⟨(zup (zup (zup H.1 123 13 0) 123 14 0) 123 15 0, H.2), by rw [e_M_hill, i1, i2], ?_, ?_, ⟨?_, ?_⟩, ?_⟩
    · intro b j z
      dsimp only
      unfold zup
      rw [if_neg (fun y => z (by unfold pP; omega)), if_neg (fun y => z (by unfold pP; omega)), if_neg (fun y => z (by unfold pP; omega))]
    · refine ⟨?_, fun j hj => ?_⟩
      · dsimp only
        rw [zup_ns (by decide), zup_ns (by decide), zup_ns (by decide)]
        exact R.2.2.2.1.1
      · dsimp only
        rw [zup_nc (by decide), zup_nc (by decide), zup_nc (by decide)]
        exact R.2.2.2.1.2 j hj
    · dsimp only; rw [zr10, zup_eq]; rfl
    · dsimp only; rw [zr9, zr1, zup_eq]; rfl
    · dsimp only; rw [zup_eq]; rfl
  by_cases g : prs (wm w) (wf w) 97 0 = -9
  · have N0 : 0 < wm w := by
      by_cases e : 0 < wm w
      · exact e
      · have ng : ¬ gst (wm w) (wf w) 0 = true := fun z => e (gst_of z).2.2.2.2
        rw [prs_s, if_neg ng] at g
        exact absurd g ((by decide : ∀ n, n < 97 → nI n ≠ -9) _ (bpl_lt hN (Nat.zero_le _)))
    obtain ⟨h2, b1, b2, b3⟩ := s_hlF (X := X) (L := wf w) (x1 := -9) hN 97 0 0 w.1 h1 N0 (by omega) (by omega) g (TXh.fm F1) a2 n8 V.1
    have F2 := F1.tr b2
    have ex : zcf X m_X_hill [.ref 1] h = hlE X (exF (wm w) (wf w) 97 0 0 w.1).1 h2 := by
      rw [e_X_hill, s_wrongPlace TXh hN, zbI_some, a1, zbV_some, g, if_pos (show (-9 : Int32) = -9 from rfl)]
      exact b1
    have X1 := xp_txt (hX.qry F2)
    have mod : ∀ h1' H : zH, zup h1'.1 123 7 0 = H.1 → h1'.2 = H.2 → MP H w → ∃ h' K0, zcf X m_M_hill [.ref 123] h1' = some (some (.int (exF (wm w) (wf w) 97 0 0 w.1).1), h') ∧ MP K0 (uT w 0 (wf w)) ∧ FM pMa H K0 ∧ (¬ (exF (wm w) (wf w) 97 0 0 w.1).1 ≤ 0 → ∃ h1 : zH, h' = (zup h1.1 123 27 0, h1.2) ∧ TH K0 (exF (wm w) (wf w) 97 0 0 w.1).2.1 h1 ∧ h1.1 123 6 = nI (exF (wm w) (wf w) 97 0 0 w.1).2.2 ∧ NV (exF (wm w) (wf w) 97 0 0 w.1).2) ∧ ((exF (wm w) (wf w) 97 0 0 w.1).1 ≤ 0 → BK K0 h') := by
      intro h1' H i1 i2 R
      obtain ⟨hs, c1, c2, c3, c4, c5⟩ := start h1' H i1 i2 R
      obtain ⟨h3, n, d1, d2, d3, d4, d5, d6, d7⟩ := (m_rdAll (X := X) hN 96 0 0 hs (Nat.zero_le _) (Or.inl rfl) (by omega) (by omega) c3 c4 c5 rfl (fun j hj => absurd hj (by omega))).1 g
      have R0 := mp_txt R (c2.tr d2)
      obtain ⟨h4, e1, e2⟩ := m_think2 (X := X) (zup h3.1 123 12 0, h3.2)
      have T4 : TH (zup h3.1 123 12 0, h3.2) (wt w) h4 := BK.th (w := uT w 0 (wf w)) e2 R0 (wv_txt V)
      have E : ∀ b j, 130 < b → b < 134 → h4.1 b j = h3.1 b j ∨ True := fun _ _ _ _ => Or.inr trivial
      obtain ⟨h5, f1, f2, f3⟩ := m_exF (X := X) (L := wf w) hN d4 d6 97 0 w.1 h4 d5 (by show wm w ≤ 0 + 97; omega) (by
        have := m_thinkF (X := X) e1
        rw [this 123 15 (by decide) (by decide)]
        dsimp only
        rw [zup_ns (by decide)]
        exact d3) (fun j hj => by
        have th := m_thinkF (X := X) e1
        obtain ⟨u1, u2, u3⟩ := d7 j hj
        refine ⟨u1.of ?_ ?_ (fun r _ _ => ?_), u2, u3⟩
        · rw [th 131 j (by decide) (fun z => absurd z.1 (by decide))]; dsimp only; rw [zup_nc (by decide)]
        · rw [th 132 j (by decide) (fun z => absurd z.1 (by decide))]; dsimp only; rw [zup_nc (by decide)]
        · rw [th 133 r (by decide) (fun z => absurd z.1 (by decide))]; dsimp only; rw [zup_nc (by decide)]) T4 (by
        have := (e2.mp R0 (wv_txt V)).1.2
        exact this) V.1
      refine ⟨h5, (zup h3.1 123 12 0, h3.2), ?_, R0, ((c2.tr d2).mono fun _ _ => pP_m).tr (FM.up (by unfold pMa; omega)), f2, f3⟩
      rw [c1, d1, e1, zbV_some]
      exact f1
    by_cases z : (exF (wm w) (wf w) 97 0 0 w.1).1 ≤ 0
    · refine OK2.go (r := (exF (wm w) (wf w) 97 0 0 w.1).1) (w' := uT w 0 (wf w)) hM V (wv_txt V) ⟨_, ?_, X1, (F2.mono fun _ _ => pXq_a).tr (FM.up (by unfold pXa; omega))⟩ fun h1' H i1 i2 R => ?_
      · rw [ex]
        unfold hlE
        rw [e_T_forget, zbV_some, if_pos z]
      · obtain ⟨h', K0, m1, m2, m3, m4, m5⟩ := mod h1' H i1 i2 R
        exact ⟨h', m1, (m5 z).mp m2 (wv_txt V), m3.tr (m5 z).pM⟩
    · obtain ⟨p1, p2, p3⟩ := b3 z
      have H8 : HR (zup h2.1 71 1 0, h2.2) 8 (exF (wm w) (wf w) 97 0 0 w.1).2.1 := p1.of fun b j h1 h2 => by dsimp only; rw [zup_nc (by omega)]
      obtain ⟨h3, q1, q2, q3, q4⟩ := s_become (X := X) (h := (zup h2.1 71 1 0, h2.2)) hH_2 hH_8 (by decide) H8 p3.1.1
      have X2 : XP h3 (uN (uT w 0 (wf w)) (exF (wm w) (wf w) 97 0 0 w.1).2) := xp_hl X1 ⟨q2, by rw [q3]; dsimp only; rw [zup_nc (by decide)]; exact p2⟩ fun b j _ hb => q4.2 b j (by omega)
      refine OK2.go (r := (exF (wm w) (wf w) 97 0 0 w.1).1) (w' := uP (uN (uT w 0 (wf w)) (exF (wm w) (wf w) 97 0 0 w.1).2) 0 (ws w)) hM V (wv_frg ((wv_txt V).uN p3)) ⟨_, ?_, xp_frg X2, ((F2.mono fun _ _ => pXq_a).tr (FM.up (by unfold pXa; omega))).tr ((q4.fm fun b j _ _ => by unfold pXa; omega).tr (FM.up (by unfold pXa; omega)))⟩ fun h1' H i1 i2 R => ?_
      · rw [ex]
        unfold hlE
        rw [e_T_forget, zbV_some, if_neg z, q1, zbV_some, e_P_forget, zbV_some]
      · obtain ⟨h', K0, m1, m2, m3, m4, m5⟩ := mod h1' H i1 i2 R
        obtain ⟨h4, r1, r2, r3, r4⟩ := m4 z
        have M2 : MP h4 (uN (uT w 0 (wf w)) (exF (wm w) (wf w) 97 0 0 w.1).2) := MP.uN m2 r2.1 r3 fun b j _ hS => r2.2.1.2 b j hS
        refine ⟨h', m1, ?_, ?_⟩
        · rw [r1]; exact mp_frg M2
        · rw [r1]; exact m3.tr (r2.2.1.pM.tr (FM.up (by unfold pMa; omega)))
  · have pv : prs (wm w) (wf w) 97 0 = -9 ∨ ∃ n, n < 97 ∧ prs (wm w) (wf w) 97 0 = nI n := by
      have : ∀ (m i : Nat), i ≤ wm w → prs (wm w) (wf w) m i = -9 ∨ ∃ n, n < 97 ∧ prs (wm w) (wf w) m i = nI n := by
        intro m
        induction m with
        | zero => intro i _; exact Or.inl rfl
        | succ m ih =>
          intro i hi
          rw [prs_s]
          split
          · split
            · exact ih _ (by omega)
            · exact Or.inl rfl
          · exact Or.inr ⟨_, bpl_lt hN hi, rfl⟩
      exact this 97 0 (Nat.zero_le _)
    obtain ⟨b, hb, eb⟩ : ∃ n, n < 97 ∧ prs (wm w) (wf w) 97 0 = nI n := by
      rcases pv with z | z
      · exact absurd z g
      · exact z
    have neg := (neg2000 b hb).2
    refine OK2.go (r := -1000 - nI b) (w' := uT w 0 (wf w)) hM V (wv_txt V) ⟨_, ?_, xp_txt (hX.qry F1), (F1.mono fun _ _ => pXq_a).tr (FM.up (by unfold pXa; omega))⟩ fun h1' H i1 i2 R => ?_
    · rw [e_X_hill, s_wrongPlace TXh hN, zbI_some, a1, zbV_some, if_neg g, eb]
      refine (s_hlB (X := X) (j := 0) neg).trans ?_
      unfold hlE
      rw [e_T_forget, zbV_some, if_pos (Int32.le_of_lt neg)]
    · obtain ⟨hs, c1, c2, c3, c4, c5⟩ := start h1' H i1 i2 R
      obtain ⟨h3, d1, d2⟩ := (m_rdAll (X := X) hN 96 0 0 hs (Nat.zero_le _) (Or.inl rfl) (by omega) (by omega) c3 c4 c5 rfl (fun j hj => absurd hj (by omega))).2 g
      refine ⟨_, ?_, mp_txt R (c2.tr d2), ((c2.tr d2).mono fun _ _ => pP_m).tr (FM.up (by unfold pMa; omega))⟩
      rw [c1, d1, show (96 + 1 : Nat) = 97 from rfl, eb]
end z66
