/-! hill, the model: statements, and what comes of them -/
def pP (b j : Nat) : Prop := (b = 123 ∧ (j = 13 ∨ j = 14 ∨ j = 15)) ∨ b = 131 ∨ b = 132 ∨ b = 133
theorem pR_P {k b j : Nat} (z : pR k b j) : pP b j := by unfold pR pB pA at z; unfold pP; omega
def plF (N : Nat) (L : zA) : Nat → Nat
  | 0 => 0
  | j + 1 => nxt N L (plF N L j)
section z65
variable {X : zX} {h h0 : zH} {w : zW} {N : Nat} {L : zA}
theorem m_isLetter {c : Int32} : zcf X m_M_isLetter [.int c] h = some (some (.int (if dgN c = 0 then 0 else 1)), h) := by
  rw [e_M_isLetter]
  unfold dgN
  by_cases h1 : c = 112
  · rw [h1]; rfl
  · rw [if_neg h1]
    by_cases h2 : c = 102
    · rw [h2]; rfl
    · rw [if_neg h2]
      by_cases h3 : c = 99
      · rw [h3]; rfl
      · rw [if_neg h3]
        by_cases h4 : c = 110
        · rw [h4]; rfl
        · rw [if_neg h4, if_neg h3, if_neg h2, if_neg h4, if_neg h1, if_pos rfl]
theorem m_readStatement (hN : N ≤ 96) {i k : Nat} (hi : i ≤ N) (hk : k < 49) (T : MT h N L) (S : STm h (false, i)) (h15 : h.1 123 15 = nI k) : ∃ h', zcf X m_M_readStatement [.ref 123] h = some (none, h') ∧ FM (pR k) h h' ∧ h'.1 123 15 = nI (k + 1) ∧ (gst N L i = true → STm h' (false, nxt N L i) ∧ TD h' N L k i) ∧ (¬ gst N L i = true → STm h' (true, bpl N L i)) := by
  have h14 : h.1 123 14 = 0 := S.1
  have h13 : h.1 123 13 = nI i := S.2
  have fR : ∀ {I : Nat → Nat → Int32} {y : Nat} {j : Nat} {v : Int32}, (j = 13 ∨ j = 14 ∨ j = 15) → FM (pR k) (I, y) (zup I 123 j v, y) := fun hj => FM.up (h := (_, _)) (by unfold pR pB pA; omega)
  have z49 : zin (nI k) 49 = true := zin_nI hk (by decide)
  rw [e_M_readStatement, m_here T hN hi h13, zbI_some, h15, if_pos z49, if_pos z49, nI_clamp (by omega), h13, show (4 : Int32) * nI k = nI (4 * k) from nI_mul 4 k]
  have F0 : FM (pR k) h (zup (zup h.1 131 k (nI i)) 132 k (ltr N L i), h.2) := FM.tr (h1 := (zup h.1 131 k (nI i), h.2)) (FM.up (by unfold pR; omega)) (FM.up (h := (zup h.1 131 k (nI i), h.2)) (by unfold pR; omega))
  simp only [zr5, zr6, h14, e00T, if_true, m_isLetter, zbI_some]
  by_cases d : dgN (ltr N L i) = 0
  · have ng : ¬ gst N L i = true := fun z => (gst_of z).1 d
    simp only [if_pos d, e00T, if_true, zup_eq, zr1, zr2, zr3, zr4, zr5, zr6, h13, h15, e10F, if_false, Int32.add_zero, nI_add1]
    refine ⟨_, rfl, F0.tr ((fR (by omega)).tr ((fR (by omega)).tr ((fR (by omega)).tr ((fR (by omega)).tr (fR (by omega)))))), by dsimp only; rw [zup_eq], fun z => absurd z ng, fun _ => ⟨?_, ?_⟩⟩
    · dsimp only; rw [zr10, zr3, zup_eq, if_pos rfl]
    · dsimp only
      rw [zr9, zup_eq]
      unfold bpl
      rw [if_pos d]
  · have ibd : i < N := by
      by_cases e : i < N
      · exact e
      · rw [ltr_out e] at d; exact absurd rfl d
    simp only [if_neg d, e10F, if_false, zup_eq, e00T, if_true, zr1, zr2, zr3, zr4, zr5, zr6, h13, h15, nI_add1]
    have F1 : FM (pR k) h (zup (zup (zup (zup h.1 131 k (nI i)) 132 k (ltr N L i)) 123 14 0) 123 13 (nI (i + 1)), h.2) := F0.tr ((fR (by omega)).tr (fR (by omega)))
    obtain ⟨h7, a1, a2, a3, a4⟩ := m_readNumbers (X := X) (h := (zup (zup (zup (zup h.1 131 k (nI i)) 132 k (ltr N L i)) 123 14 0) 123 13 (nI (i + 1)), h.2)) hN hk d (T.fm F1 fun b j z => by unfold pR pB pA at z; omega) ⟨by dsimp only; rw [zr3, zup_eq]; rfl, by dsimp only; rw [zup_eq]⟩ ibd
    have F7 : FM (pR k) h h7 := F1.tr (a2.mono fun _ _ z => Or.inl z)
    have h715 : h7.1 123 15 = nI k := (a2 123 15 (by unfold pB pA; omega)).trans (by dsimp only; rw [zr4, zr2, zr6, zr5]; exact h15)
    rw [a1, zbV_some]
    by_cases ok : (sdF N L (dgN (ltr N L i)) (false, i + 1)).1 = false
    · obtain ⟨f1, f2⟩ := sdF_ok ok
      rw [f2] at a3
      have h714 : h7.1 123 14 = 0 := a3.1
      have h713 : h7.1 123 13 = nI (i + 1 + dgN (ltr N L i)) := a3.2
      have fle := (@fdF_le N L (dgN (ltr N L i)) (i + 1)).2.2 ibd
      have T7 : MT h7 N L := T.fm F7 fun b j z => by unfold pR pB pA at z; omega
      rw [if_pos h714, m_here T7 hN (by omega) h713, zbI_some]
      by_cases c59 : ltr N L (i + 1 + dgN (ltr N L i)) = 59
      · have gg : gst N L i = true := by unfold gst; exact decide_eq_true ⟨d, f1, c59⟩
        simp only [if_pos c59, zup_eq, e00T, if_true, zr1, zr2, zr3, zr4, h713, h715, nI_add1]
        refine ⟨_, rfl, F7.tr ((fR (by omega)).tr ((fR (by omega)).tr (fR (by omega)))), by dsimp only; rw [zup_eq], fun _ => ⟨⟨?_, ?_⟩, ?_⟩, fun z => absurd gg z⟩
        · dsimp only; rw [zr10, zr3, zup_eq]; rfl
        · dsimp only
          rw [zr9, zup_eq]
          unfold nxt
          congr 1
          omega
        · have e3 : ∀ (b j : Nat) (u1 u2 u3 : Int32), b ≠ 123 → zup (zup (zup h7.1 123 14 u1) 123 13 u2) 123 15 u3 b j = h7.1 b j := fun b j u1 u2 u3 hb => by rw [zup_nc hb, zup_nc hb, zup_nc hb]
          have e7 : ∀ (b : Nat), b = 131 ∨ b = 132 → h7.1 b k = (zup (zup h.1 131 k (nI i)) 132 k (ltr N L i)) b k := fun b hb => (a2 b k (by unfold pB pA; omega)).trans (by dsimp only; rw [zup_nc (by omega), zup_nc (by omega)])
          obtain ⟨v1, v2, v3, v4⟩ := a4 ok
          unfold TD
          dsimp only
          rw [e3 131 _ _ _ _ (by decide), e3 132 _ _ _ _ (by decide), e3 133 _ _ _ _ (by decide), e3 133 _ _ _ _ (by decide), e3 133 _ _ _ _ (by decide), e3 133 _ _ _ _ (by decide), e7 131 (Or.inl rfl), e7 132 (Or.inr rfl)]
          exact ⟨by rw [zup_nc (by decide), zup_eq], zup_eq, v1, v2, v3, v4⟩
      · have ng : ¬ gst N L i = true := fun z => c59 (of_decide_eq_true z).2.2
        simp only [if_neg c59, zup_eq, e10F, if_false, zr1, zr2, zr3, zr4, h713, h715, nI_add1, Int32.add_zero]
        refine ⟨_, rfl, F7.tr ((fR (by omega)).tr ((fR (by omega)).tr (fR (by omega)))), by dsimp only; rw [zup_eq], fun z => absurd z ng, fun _ => ⟨?_, ?_⟩⟩
        · dsimp only; rw [zr10, zr3, zup_eq, if_pos rfl]
        · dsimp only
          rw [zr9, zup_eq]
          unfold bpl
          rw [if_neg d, f1]
    · have e1 : fdF N L (dgN (ltr N L i)) (i + 1) ≠ i + 1 + dgN (ltr N L i) := fun z => ok (by unfold sdF; rw [if_neg hFT, if_pos z])
      have ng : ¬ gst N L i = true := fun z => e1 (of_decide_eq_true z).2.1
      have es : sdF N L (dgN (ltr N L i)) (false, i + 1) = (true, fdF N L (dgN (ltr N L i)) (i + 1)) := by unfold sdF; rw [if_neg hFT, if_neg e1]
      rw [es] at a3
      have h714 : h7.1 123 14 = 1 := a3.1
      have h713 : h7.1 123 13 = nI (fdF N L (dgN (ltr N L i)) (i + 1)) := a3.2
      simp only [h714, zup_eq, e10F, if_false, zr1, zr2, zr3, zr4, h713, h715, nI_add1, Int32.add_zero]
      refine ⟨_, rfl, F7.tr ((fR (by omega)).tr ((fR (by omega)).tr (fR (by omega)))), by dsimp only; rw [zup_eq], fun z => absurd z ng, fun _ => ⟨?_, ?_⟩⟩
      · dsimp only; rw [zr10, zr3, zup_eq, if_pos rfl]
      · dsimp only
        rw [zr9, zup_eq]
        unfold bpl
        rw [if_neg d]
theorem TD.of {h' : zH} {k i : Nat} (D : TD h N L k i) (e1 : h'.1 131 k = h.1 131 k) (e2 : h'.1 132 k = h.1 132 k) (e3 : ∀ j, 4 * k ≤ j → j < 4 * k + 4 → h'.1 133 j = h.1 133 j) : TD h' N L k i := by
  unfold TD
  rw [e1, e2, e3 _ (by omega) (by omega), e3 _ (by omega) (by omega), e3 _ (by omega) (by omega), e3 _ (by omega) (by omega)]
  exact D
theorem bpl_lt (hN : N ≤ 96) {i : Nat} (hi : i ≤ N) : bpl N L i < 97 := by
  unfold bpl
  split
  · omega
  · rename_i d
    have ibd : i < N := by
      by_cases e : i < N
      · exact e
      · rw [ltr_out e] at d; exact absurd rfl d
    have := (@fdF_le N L (dgN (ltr N L i)) (i + 1)).2.2 ibd
    omega
/-- all statements are read, or a place is wrong -/
theorem m_rdAll (hN : N ≤ 96) : ∀ (m i k : Nat) (h : zH), i ≤ N → (k = 0 ∨ i < N) → N < i + (m + 1) → 4 * k ≤ i → MT h N L → STm h (false, i) → h.1 123 15 = nI k → plF N L k = i → (∀ j, j < k → TD h N L j (plF N L j) ∧ gst N L (plF N L j) = true ∧ plF N L j < N) → (prs N L (m + 1) i = -9 → ∃ h' n, zrn X 8 m_M_hill 20 [some (.ref 123), none] [] h = (zbV (zcf X m_M_think [.ref 123] ((zup h'.1 123 12 0), h'.2)) fun h2 => zrn X 8 m_M_hill 79 [some (.ref 123), some (.int 0)] [] h2) ∧ FM pP h h' ∧ h'.1 123 15 = nI n ∧ 4 * n ≤ N ∧ 1 ≤ n ∧ ¬ plF N L n < N ∧ (∀ j, j < n → TD h' N L j (plF N L j) ∧ gst N L (plF N L j) = true ∧ plF N L j < N)) ∧ (prs N L (m + 1) i ≠ -9 → ∃ h', zrn X 8 m_M_hill 20 [some (.ref 123), none] [] h = some (some (.int (-1000 - prs N L (m + 1) i)), ((zup h'.1 123 12 0), h'.2)) ∧ FM pP h h') := by
  intro m
  induction m with
  | zero =>
    intro i k h hi hk hm h4 T S h15 hp D
    have h14 : h.1 123 14 = 0 := S.1
    obtain ⟨h1, a1, a2, a3, a4, a5⟩ := m_readStatement (X := X) hN hi (by omega) T S h15
    have nl : ¬ i < N := by omega
    have k0 : k = 0 := by omega
    have ng : ¬ gst N L i = true := fun z => nl (gst_of z).2.2.2.2
    have S1 := a5 ng
    have e : prs N L (0 + 1) i = nI (bpl N L i) := by rw [prs_s, if_neg ng]
    have b97 := @bpl_lt N L hN i hi
    refine ⟨fun z => absurd (e.symm.trans z) ((by decide : ∀ n, n < 97 → nI n ≠ -9) _ b97), fun _ => ⟨h1, ?_, a2.mono fun _ _ => pR_P⟩⟩
    have k15 : h.1 123 15 = 0 := by rw [h15, k0]; rfl
    rw [b_M_hill_20, if_pos h14, if_pos k15, a1, zbV_some, b_M_hill_20, if_neg (show ¬ h1.1 123 14 = 0 by rw [S1.1, if_pos rfl]; decide), zup_ns (show (14 : Nat) ≠ 12 by decide), if_neg (show ¬ h1.1 123 14 = 0 by rw [S1.1, if_pos rfl]; decide), zup_ns (show (13 : Nat) ≠ 12 by decide), S1.2, e]
  | succ m ih =>
    intro i k h hi hk hm h4 T S h15 hp D
    have h14 : h.1 123 14 = 0 := S.1
    have h13 : h.1 123 13 = nI i := S.2
    obtain ⟨h1, a1, a2, a3, a4, a5⟩ := m_readStatement (X := X) hN hi (by omega) T S h15
    have hd : zrn X 8 m_M_hill 20 [some (.ref 123), none] [] h = zrn X 8 m_M_hill 20 [some (.ref 123), none] [] h1 := by
      rw [b_M_hill_20, if_pos h14, h15, T.1, h13, a1, zbV_some]
      by_cases k0 : nI k = 0
      · rw [if_pos k0]
      · have : k ≠ 0 := fun z => k0 (by rw [z]; rfl)
        rw [if_neg k0, if_neg (show ¬ nI N ≤ nI i from nI_ge (by omega) (by omega))]
    have T1 : MT h1 N L := T.fm a2 fun b j z => by unfold pR pB pA at z; omega
    have b97 := @bpl_lt N L hN i hi
    rw [hd]
    by_cases gg : gst N L i = true
    · obtain ⟨S1, D1⟩ := a4 gg
      obtain ⟨g1, g2, g3, g4, g5⟩ := gst_of gg
      have d2 : 2 ≤ dgN (ltr N L i) := by rcases dgN_v g1 with z | z | z | z <;> omega
      have en : nxt N L i = i + dgN (ltr N L i) + 2 := rfl
      have D' : ∀ j, j < k + 1 → TD h1 N L j (plF N L j) ∧ gst N L (plF N L j) = true ∧ plF N L j < N := fun j hj => by
        by_cases e : j = k
        · rw [e, hp]; exact ⟨D1, gg, g5⟩
        · obtain ⟨u1, u2, u3⟩ := D j (by omega)
          exact ⟨u1.of (a2 131 j (by unfold pR pB pA; omega)) (a2 132 j (by unfold pR pB pA; omega)) (fun q q1 q2 => a2 133 q (by unfold pR pB pA; omega)), u2, u3⟩
      have hp' : plF N L (k + 1) = nxt N L i := by show nxt N L (plF N L k) = _; rw [hp]
      by_cases l : nxt N L i < N
      · have ep : prs N L (m + 1 + 1) i = prs N L (m + 1) (nxt N L i) := by rw [prs_s, if_pos gg, if_pos l]
        obtain ⟨r1, r2⟩ := ih (nxt N L i) (k + 1) h1 (by omega) (Or.inr l) (by omega) (by omega) T1 S1 a3 hp' D'
        rw [ep]
        refine ⟨fun z => ?_, fun z => ?_⟩
        · obtain ⟨h', n, b1, b2, b3, b4, b5, b6⟩ := r1 z
          exact ⟨h', n, b1, (a2.mono fun _ _ => pR_P).tr b2, b3, b4, b5, b6⟩
        · obtain ⟨h', b1, b2⟩ := r2 z
          exact ⟨h', b1, (a2.mono fun _ _ => pR_P).tr b2⟩
      · have ep : prs N L (m + 1 + 1) i = -9 := by rw [prs_s, if_pos gg, if_neg l]
        refine ⟨fun _ => ⟨h1, k + 1, ?_, a2.mono fun _ _ => pR_P, a3, by omega, by omega, by rw [hp']; exact l, D'⟩, fun z => absurd ep z⟩
        have S14 : h1.1 123 14 = 0 := S1.1
        have S13 : h1.1 123 13 = nI (nxt N L i) := S1.2
        rw [b_M_hill_20, if_pos S14, a3, if_neg (show ¬ nI (k + 1) = 0 from fun z => absurd ((nI_eq (b := 0) (by omega) (by decide)).mp z) (by omega)), T1.1, S13, if_pos (nI_le (by omega) (by omega)), zup_ns (show (14 : Nat) ≠ 12 by decide), if_pos S14]
    · have S1 := a5 gg
      have e : prs N L (m + 1 + 1) i = nI (bpl N L i) := by rw [prs_s, if_neg gg]
      refine ⟨fun z => absurd (e.symm.trans z) ((by decide : ∀ n, n < 97 → nI n ≠ -9) _ b97), fun _ => ⟨h1, ?_, a2.mono fun _ _ => pR_P⟩⟩
      rw [b_M_hill_20, if_neg (show ¬ h1.1 123 14 = 0 by rw [S1.1, if_pos rfl]; decide), zup_ns (show (14 : Nat) ≠ 12 by decide), if_neg (show ¬ h1.1 123 14 = 0 by rw [S1.1, if_pos rfl]; decide), zup_ns (show (13 : Nat) ≠ 12 by decide), S1.2, e]
/-- what the statements may write -/
def pE (b j : Nat) : Prop := (124 ≤ b ∧ b ≤ 128) ∨ (b = 123 ∧ (j = 0 ∨ j = 6 ∨ j = 9 ∨ j = 10))
theorem pE_T {b j : Nat} (z : pE b j) : pT b j := by unfold pE at z; unfold pT pS; omega
theorem nI_lit {a b : Nat} (ha : a < 2 ^ 31) (hb : b < 2 ^ 31) : nI a ≤ nI b ↔ a ≤ b := by rw [nI_le' hb, nI_toInt ha]; omega
theorem m_isOneN {t : zT} (R : MR h t) (hn : tn t ≤ 6) {n : Nat} (hn2 : n < 2 ^ 31) : zcf X m_M_isOne [.ref 123, .int (nI n)] h = some (some (.int (if n < tn t then 1 else 0)), h) := by
  by_cases q : n < tn t
  · rw [if_pos q, m_isOne1 R hn q]
  · rw [if_neg q, m_isOne0 R hn (not_rg hn2 (by omega) q)]
theorem who_9 {n : Nat} {C : zA} {c : Int32} (hn : n ≤ 6) : 0 ≤ who n C c ↔ ¬ who n C c = -9 := (neg9 hn (by
  rcases whoF_rg C c n 0 with z | ⟨q, _, z2, z3, _⟩
  · exact Or.inl z
  · exact Or.inr ⟨q, by omega, z3⟩)).2
theorem m_cms {K0 : zH} {i k : Nat} (hk : k < 25) (hg : gst N L i = true) {x : zN} (D : TD h N L k i) (T : TH K0 x.1 h) (hn : h.1 123 6 = nI x.2) (V : NV x) : ∃ h', zcf X m_M_comesTold [.ref 123, .int (nI k)] h = some (some (.int (if (cms N L x i).1 = true then 1 else 0)), h') ∧ TH K0 (cms N L x i).2.1 h' ∧ h'.1 123 6 = nI (cms N L x i).2.2 ∧ FM pE h h' := by
  obtain ⟨g1, g2, g3, g4, g5⟩ := gst_of hg
  have h6 := V.1.1
  have R := T.1
  have V' := cms_V hg V
  obtain ⟨D1, D2, D3, D4, D5, D6⟩ := D
  have i1 : isd (ltr N L (i + 1)) = true := g2 0 (by omega)
  have i2 : isd (ltr N L (i + 2)) = true := by
    rcases dgN_v g1 with z | z | z | z <;> exact g2 1 (by omega)
  have n1 := (isd_dn i1).2.2.2
  have n2 := (isd_dn i2).2.2.2
  have bad : cms N L x i = (false, x) → ∃ h', some (some (Value.int 0), h) = some (some (Value.int (if (cms N L x i).1 = true then 1 else 0)), h') ∧ TH K0 (cms N L x i).2.1 h' ∧ h'.1 123 6 = nI (cms N L x i).2.2 ∧ FM pE h h' := fun e => by
    rw [e]
    exact ⟨h, rfl, T, hn, FM.rf⟩
  have good : ∀ (y : zN) (h1 : zH), cms N L x i = (true, y) → MR h1 y.1 → h1.1 123 6 = nI y.2 → FM pE h h1 → ∃ h', some (some (Value.int 1), h1) = some (some (Value.int (if (cms N L x i).1 = true then 1 else 0)), h') ∧ TH K0 (cms N L x i).2.1 h' ∧ h'.1 123 6 = nI (cms N L x i).2.2 ∧ FM pE h h' := fun y h1 e a b c => by
    rw [e] at V' ⊢
    exact ⟨h1, rfl, T.go a (c.mono fun _ _ => pE_T) V'.1, b, c⟩
  have z0 : zin (nI (4 * k)) 196 = true := zin_nI (by omega) (by decide)
  have z1 : zin (nI (4 * k + 1)) 196 = true := zin_nI (by omega) (by decide)
  have z2 : zin (nI (4 * k + 2)) 196 = true := zin_nI (by omega) (by decide)
  have z3 : zin (nI (4 * k + 3)) 196 = true := zin_nI (by omega) (by decide)
  rw [e_M_comesTold, show (4 : Int32) * nI k = nI (4 * k) from nI_mul 4 k, nI_add1, nI_a2, nI_a3, if_pos z0, if_pos z1, if_pos z2, if_pos z3, if_pos (zin_nI (show k < 49 by omega) (by decide)), nI_clamp (show k < 2 ^ 31 by omega), nI_clamp (show 4 * k < 2 ^ 31 by omega), nI_clamp (show 4 * k + 1 < 2 ^ 31 by omega), nI_clamp (show 4 * k + 2 < 2 ^ 31 by omega), nI_clamp (show 4 * k + 3 < 2 ^ 31 by omega), D2, D3]
  rcases dgN_v g1 with ⟨c, d⟩ | ⟨c, d⟩ | ⟨c, d⟩ | ⟨c, d⟩
  · have i3 : isd (ltr N L (i + 3)) = true := g2 2 (by omega)
    have n3 := (isd_dn i3).2.2.2
    rw [D4 c, c, if_pos (show (99 : Int32) = 99 from rfl), if_neg (show ¬ (99 : Int32) = 110 by decide), m_isOneN R h6 (by omega), zbI_some, b10, m_oneIn R h6, zbI_some]
    have ec : cms N L x i = if dnN N L (i + 1) < tn x.1 ∧ 10 * dnN N L (i + 2) + dnN N L (i + 3) < 36 ∧ who (tn x.1) (tC x.1) (nI (10 * dnN N L (i + 2) + dnN N L (i + 3))) = -9 then (true, (wC x.1 (dnN N L (i + 1)) (nI (10 * dnN N L (i + 2) + dnN N L (i + 3))), x.2)) else (false, x) := by
      unfold cms
      rw [c, if_pos (show (99 : Int32) = 99 from rfl)]
    by_cases q1 : dnN N L (i + 1) < tn x.1
    · rw [if_pos q1]
      by_cases q2 : 10 * dnN N L (i + 2) + dnN N L (i + 3) < 36
      · rw [if_neg (show ¬ (36 : Int32) ≤ nI (10 * dnN N L (i + 2) + dnN N L (i + 3)) from nI_ge (b := 36) q2 (by omega))]
        by_cases q3 : who (tn x.1) (tC x.1) (nI (10 * dnN N L (i + 2) + dnN N L (i + 3))) = -9
        · rw [if_neg (fun z => (who_9 h6).mp z q3), if_neg (show ¬ (1 : Int32) = 0 by decide), if_pos (zin_nI (show dnN N L (i + 1) < 7 by omega) (by decide)), nI_clamp (by omega)]
          exact good _ _ (ec.trans (if_pos ⟨q1, q2, q3⟩)) (MR.uC R) (by dsimp only; rw [zup_nc (by decide)]; exact hn) (FM.up (by unfold pE; omega))
        · rw [if_pos ((who_9 h6).mpr q3), if_pos (show (0 : Int32) = 0 from rfl)]
          exact bad (ec.trans (if_neg (fun z => q3 z.2.2)))
      · rw [if_pos (show (36 : Int32) ≤ nI (10 * dnN N L (i + 2) + dnN N L (i + 3)) from nI_le (a := 36) (by omega) (by omega))]
        exact bad (ec.trans (if_neg (fun z => q2 z.2.1)))
    · rw [if_neg q1]
      exact bad (ec.trans (if_neg (fun z => q1 z.1)))
  · rw [D5 c, c, if_neg (show ¬ (102 : Int32) = 99 by decide), if_pos (show (102 : Int32) = 102 from rfl), if_neg (show ¬ (102 : Int32) = 110 by decide), m_isOneN R h6 (by omega), zbI_some, b10]
    have ec : cms N L x i = if dnN N L (i + 1) < tn x.1 ∧ dnN N L (i + 2) < 4 then (true, (wD x.1 (dnN N L (i + 1)) (nI (dnN N L (i + 2))), x.2)) else (false, x) := by
      unfold cms
      rw [c, if_neg (show ¬ (102 : Int32) = 99 by decide), if_pos (show (102 : Int32) = 102 from rfl)]
    by_cases q1 : dnN N L (i + 1) < tn x.1
    · rw [if_pos q1]
      by_cases q2 : dnN N L (i + 2) < 4
      · rw [if_neg (show ¬ (4 : Int32) ≤ nI (dnN N L (i + 2)) from nI_ge (b := 4) q2 (by omega)), if_neg (show ¬ (1 : Int32) = 0 by decide), if_pos (zin_nI (show dnN N L (i + 1) < 7 by omega) (by decide)), nI_clamp (by omega)]
        exact good _ _ (ec.trans (if_pos ⟨q1, q2⟩)) (MR.uD R) (by dsimp only; rw [zup_nc (by decide)]; exact hn) (FM.up (by unfold pE; omega))
      · rw [if_pos (show (4 : Int32) ≤ nI (dnN N L (i + 2)) from nI_le (a := 4) (by omega) (by omega)), if_pos (show (0 : Int32) = 0 from rfl)]
        exact bad (ec.trans (if_neg (fun z => q2 z.2)))
    · rw [if_neg q1, if_pos (show (0 : Int32) = 0 from rfl)]
      exact bad (ec.trans (if_neg (fun z => q1 z.1)))
  · rw [c, if_neg (show ¬ (110 : Int32) = 99 by decide), if_neg (show ¬ (110 : Int32) = 102 by decide), if_neg (show ¬ (110 : Int32) = 112 by decide), if_pos (show (110 : Int32) = 110 from rfl)]
    have ec : cms N L x i = if 1 ≤ 10 * dnN N L (i + 1) + dnN N L (i + 2) ∧ 10 * dnN N L (i + 1) + dnN N L (i + 2) ≤ 60 ∧ x.2 + (10 * dnN N L (i + 1) + dnN N L (i + 2)) ≤ 999 then (true, (nts x.1 (10 * dnN N L (i + 1) + dnN N L (i + 2)), x.2 + (10 * dnN N L (i + 1) + dnN N L (i + 2)))) else (false, x) := by
      unfold cms
      rw [c, if_neg (show ¬ (110 : Int32) = 99 by decide), if_neg (show ¬ (110 : Int32) = 102 by decide), if_neg (show ¬ (110 : Int32) = 112 by decide)]
    have hb : 10 * dnN N L (i + 1) + dnN N L (i + 2) < 100 := by omega
    generalize 10 * dnN N L (i + 1) + dnN N L (i + 2) = n at hb ec ⊢
    have e60 : (60 : Int64).toInt = 60 := by decide
    rw [m_inI (L := 1) (U := 60) (by decide) (by decide), zbI_some, nI_toInt (by omega), hn]
    by_cases q1 : 1 ≤ n ∧ n ≤ 60
    · have nx := V.2
      rw [if_pos (show (1 : Int) ≤ (n : Int) ∧ (n : Int) ≤ 60 by omega), if_neg (show ¬ (1 : Int32) = 0 by decide)]
      by_cases q3 : x.2 + n ≤ 999
      · obtain ⟨h1, a1, a2, a3, a4⟩ := m_goNights (X := X) R V.1 (e := n) (by omega)
        rw [if_neg (show ¬ 999 < nI x.2 + nI n from fun z => absurd ((n999 x.2 (by omega) n (by omega)).1.mp z) (by omega)), if_neg (show ¬ (1 : Int32) = 0 by decide), a1, zbV_some]
        exact good _ _ (ec.trans (if_pos ⟨q1.1, q1.2, q3⟩)) a2 (by rw [a3, hn]; exact nI_add _ _) (a4.fm.mono fun b j z => by unfold pN at z; unfold pE; omega)
      · rw [if_pos ((n999 x.2 (by omega) n (by omega)).1.mpr (by omega)), if_pos (show (0 : Int32) = 0 from rfl)]
        exact bad (ec.trans (if_neg (fun z => q3 z.2.2)))
    · rw [if_neg (show ¬ ((1 : Int) ≤ (n : Int) ∧ (n : Int) ≤ 60) by omega), if_pos (show (0 : Int32) = 0 from rfl), if_pos (show (0 : Int32) = 0 from rfl)]
      exact bad (ec.trans (if_neg (fun z => q1 ⟨z.1, z.2.1⟩)))
  · have i3 : isd (ltr N L (i + 3)) = true := g2 2 (by omega)
    have i4 : isd (ltr N L (i + 4)) = true := g2 3 (by omega)
    have i5 : isd (ltr N L (i + 5)) = true := g2 4 (by omega)
    have n3 := (isd_dn i3).2.2.2
    have n4 := (isd_dn i4).2.2.2
    have n5 := (isd_dn i5).2.2.2
    obtain ⟨d1, d2, d3⟩ := D6 c
    rw [d1, d2, d3, c, if_neg (show ¬ (112 : Int32) = 99 by decide), if_neg (show ¬ (112 : Int32) = 102 by decide), if_pos (show (112 : Int32) = 112 from rfl), if_neg (show ¬ (112 : Int32) = 110 by decide), R.1, m_oneIn R h6, zbI_some]
    have ec : cms N L x i = if dnN N L (i + 1) < 6 ∧ 10 * dnN N L (i + 3) + dnN N L (i + 4) < 36 ∧ dnN N L (i + 5) < 4 ∧ tn x.1 < 6 ∧ who (tn x.1) (tC x.1) (nI (10 * dnN N L (i + 3) + dnN N L (i + 4))) = -9 then (true, (jn x.1 (nI (dnN N L (i + 1))) (nI (dnN N L (i + 2))) (nI (10 * dnN N L (i + 3) + dnN N L (i + 4))) (nI (dnN N L (i + 5))), x.2)) else (false, x) := by
      unfold cms
      rw [c, if_neg (show ¬ (112 : Int32) = 99 by decide), if_neg (show ¬ (112 : Int32) = 102 by decide), if_pos (show (112 : Int32) = 112 from rfl)]
    by_cases q1 : dnN N L (i + 1) < 6
    · rw [if_neg (show ¬ (6 : Int32) ≤ nI (dnN N L (i + 1)) from nI_ge (b := 6) q1 (by omega))]
      by_cases q2 : 10 * dnN N L (i + 3) + dnN N L (i + 4) < 36
      · rw [if_neg (show ¬ (36 : Int32) ≤ nI (10 * dnN N L (i + 3) + dnN N L (i + 4)) from nI_ge (b := 36) q2 (by omega))]
        by_cases q3 : dnN N L (i + 5) < 4
        · rw [if_neg (show ¬ (4 : Int32) ≤ nI (dnN N L (i + 5)) from nI_ge (b := 4) q3 (by omega))]
          by_cases q4 : tn x.1 < 6
          · rw [if_neg (show ¬ (6 : Int32) ≤ nI (tn x.1) from nI_ge (b := 6) q4 (by omega))]
            by_cases q5 : who (tn x.1) (tC x.1) (nI (10 * dnN N L (i + 3) + dnN N L (i + 4))) = -9
            · obtain ⟨h1, a1, a2, a3, a4⟩ := m_oneComes (X := X) (k := nI (dnN N L (i + 1))) (f := nI (dnN N L (i + 2))) (c := nI (10 * dnN N L (i + 3) + dnN N L (i + 4))) (d := nI (dnN N L (i + 5))) R q4
              rw [if_neg (fun z => (who_9 h6).mp z q5), if_neg (show ¬ (1 : Int32) = 0 by decide), a1, zbV_some]
              exact good _ _ (ec.trans (if_pos ⟨q1, q2, q3, q4, q5⟩)) a2 (a3.trans hn) (fun b j z => a4 b j (fun y => z (Or.inl y)) (fun y => z (by unfold pE; omega)))
            · rw [if_pos ((who_9 h6).mpr q5), if_pos (show (0 : Int32) = 0 from rfl)]
              exact bad (ec.trans (if_neg (fun z => q5 z.2.2.2.2)))
          · rw [if_pos (show (6 : Int32) ≤ nI (tn x.1) from nI_le (a := 6) (by omega) (by omega))]
            exact bad (ec.trans (if_neg (fun z => q4 z.2.2.2.1)))
        · rw [if_pos (show (4 : Int32) ≤ nI (dnN N L (i + 5)) from nI_le (a := 4) (by omega) (by omega))]
          exact bad (ec.trans (if_neg (fun z => q3 z.2.2.1)))
      · rw [if_pos (show (36 : Int32) ≤ nI (10 * dnN N L (i + 3) + dnN N L (i + 4)) from nI_le (a := 36) (by omega) (by omega))]
        exact bad (ec.trans (if_neg (fun z => q2 z.2.1)))
    · rw [if_pos (show (6 : Int32) ≤ nI (dnN N L (i + 1)) from nI_le (a := 6) (by omega) (by omega))]
      exact bad (ec.trans (if_neg (fun z => q1 z.1)))
end z65
