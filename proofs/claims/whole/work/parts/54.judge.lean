/-! judge, which -/
def judF (t : zT) (f : zA) : Nat → Nat → Int32
  | 0, _ => -9
  | m + 1, i => if i < tn t then (if f i = tC t i then judF t f m (i + 1) else nI i) else nI i
theorem judF_s {t : zT} {f : zA} {m i : Nat} : judF t f (m + 1) i = if i < tn t then (if f i = tC t i then judF t f m (i + 1) else nI i) else nI i := rfl
/-- whether one faces as told -/
def tldF (f : zA) (p : Nat) : Nat → Nat → zT → Bool
  | 0, _, _ => true
  | m + 1, i, t => if tD t p = f i then tldF f p m (i + 1) (night t (-9)).1 else false
theorem tldF_s {f : zA} {p m i : Nat} {t : zT} : tldF f p (m + 1) i t = if tD t p = f i then tldF f p m (i + 1) (night t (-9)).1 else false := rfl
def whS (k : Nat) (t : zT) (p i : Nat) : zT := if k = 0 then wK t p (nI i) else (if k = 1 then wF t p (nI i) else wD t p (nI i))
def whL (k : Nat) : Nat := if k = 0 then 6 else (if k = 1 then 10 else 4)
def whF (T : Nat → Bool) : Nat → Nat → Int32 → Int32
  | 0, _, b => b
  | m + 1, i, b => whF T m (i + 1) (b ||| (if T i = true then bt i else 0))
theorem whF_s {T : Nat → Bool} {m i : Nat} {b : Int32} : whF T (m + 1) i b = whF T m (i + 1) (b ||| (if T i = true then bt i else 0)) := rfl
theorem zup_self {I : Nat → Nat → Int32} {a j : Nat} : zup I a j (I a j) = I := zup_id rfl
/-- the model has put everything back -/
def BK (h0 h : zH) : Prop := KT h0 h ∧ ∀ j, j < 37 → lay h.1 j = lay h0.1 j
section z54
variable {X : zX} {h h0 : zH} {w : zW} {mx mm : zM} {as : List Value} {t : zT} {a : Nat}
theorem BK.mp (K : BK h0 h) (R : MP h0 w) (V : WV w) : MP h w := R.back V K.1 K.2
theorem BK.th (K : BK h0 h) (R : MP h0 w) (V : WV w) : TH h0 (wt w) h := ⟨(K.mp R V).1.1, K.1, V.1.1⟩
theorem BK.pM (K : BK h0 h) : FM pMa h0 h := K.1.pM
theorem TH.bk (T : TH h0 t h) : ∃ h1, zcf X m_M_again [.ref 123] h = some (none, h1) ∧ BK h0 h1 := by
  obtain ⟨h1, a1, a2, a3, -⟩ := m_again (X := X) T.2.1
  exact ⟨h1, a1, a2, a3⟩
theorem m_think2 (h : zH) : ∃ h1, zcf X m_M_think [.ref 123] h = some (none, h1) ∧ BK h h1 := by
  rw [e_M_think]
  obtain ⟨h1, w1, T⟩ := m_takeAll (X := X) (h := h) (q := 133) (by decide) zc_134
  rw [w1, zbV_some]
  obtain ⟨t1, t2, t3, t4, t5⟩ := T
  refine ⟨h1, rfl, ⟨t4, fun b j hb => t5 b j (fun z => hb (by unfold pS; omega)) (fun z => hb (by unfold pS; omega))⟩, fun j _ => ?_⟩
  unfold lay
  by_cases h0 : j = 0
  · rw [if_pos h0, if_pos h0]; exact t5 123 0 (by decide) (by decide)
  · rw [if_neg h0, if_neg h0]
    by_cases h2 : j = 1
    · rw [if_pos h2, if_pos h2]; exact t5 123 6 (by decide) (by decide)
    · rw [if_neg h2, if_neg h2]; exact t5 _ _ (by omega) (by omega)
theorem s_judF (hX : XP h w) (V : WV w) : ∀ (m i : Nat) (g3 : Option Value), i + m = wr w → zrn X 2 m_X_judge 5 [some (.ref 1), some (.int (-9)), some (.int (nI i)), g3] [] h = some (some (.int (judF (wt w) (wg w) m i)), (zup h.1 1 8 0, h.2)) := by
  have h6 : tn (wt w) ≤ 6 := V.1.1.1
  have h12 := V.2.2.2.2.2.2.1
  have e8 := hX.2.2.2.2.1.1
  have stop : ∀ (i : Nat) (g3 : Option Value), i < 12 → zrn X 2 m_X_judge 5 [some (.ref 1), some (.int (nI i)), some (.int (nI (i + 1))), g3] [] h = some (some (.int (nI i)), (zup h.1 1 8 0, h.2)) := by
    intro i g3 hi
    rw [b_X_judge_5, if_neg (show ¬ nI i = -9 from ne9 (by omega)), ite_self]
  intro m
  induction m with
  | zero =>
    intro i g3 hi
    rw [b_X_judge_5, e8, if_pos (nI_le (by omega) (by omega))]
    rfl
  | succ m ih =>
    intro i g3 hi
    rw [b_X_judge_5, e8, if_neg (nI_ge (by omega) (by omega)), if_pos (show (-9 : Int32) = -9 from rfl), judF_s, nI_add1]
    by_cases hp : i < tn (wt w)
    · rw [if_pos hp, s_has1 hH_2 hX.1.1 h6 hp, zbI_some, if_neg (show ¬ (1 : Int32) = 0 by decide), s_cellOf (t := wt w) hH_2 hX.1.1 h6 hp, zbI_some, s_at zc_73 (by decide) (show i < 12 by omega) (by decide), zbI_some, hX.2.2.2.2.1.2 i (by omega)]
      by_cases e : wg w i = tC (wt w) i
      · rw [if_pos e, if_pos e.symm, if_neg (show ¬ (1 : Int32) = 0 by decide)]
        exact ih (i + 1) _ (by omega)
      · rw [if_neg e, if_neg (show ¬ tC (wt w) i = wg w i from fun z => e z.symm), if_pos (show (0 : Int32) = 0 from rfl)]
        exact stop i _ (by omega)
    · rw [if_neg hp, s_has0 hH_2 hX.1.1 h6 (fun z => by
        obtain ⟨q, hq0, eq⟩ := z
        have hq : q < tn (wt w) := hq0
        have := (nI_eq (a := i) (b := q) (by omega) (by omega)).mp eq
        exact hp (by rw [this]; exact hq)), zbI_some, if_pos (show (0 : Int32) = 0 from rfl)]
      exact stop i _ (by omega)
theorem m_judF {n : Nat} {f : zA} (R : MR h t) (hn : tn t ≤ 6) (hn2 : n ≤ 12) (hf : ∀ j, j < n → h.1 139 j = f j) : ∀ (m i : Nat), i + m = n → zrn X 0 m_M_judge 17 [some (.ref 123), some (.int (nI n)), some (.int (nI i))] [] h = some (some (.int (judF t f m i)), h) := by
  intro m
  induction m with
  | zero =>
    intro i hi
    rw [b_M_judge_17, if_pos (nI_le (by omega) (by omega))]
    rfl
  | succ m ih =>
    intro i hi
    rw [b_M_judge_17, if_neg (nI_ge (by omega) (by omega)), R.1, judF_s]
    by_cases hp : i < tn t
    · rw [if_pos hp, if_neg (nI_ge (by omega) (by omega)), if_pos (zin_nI (by omega) (by decide)), if_pos (zin_nI (by omega) (by decide)), nI_clamp (by omega), hf i (by omega), (R.2 i hp).2.2.1, nI_add1]
      by_cases e : f i = tC t i
      · rw [if_pos e, if_pos e]
        exact ih (i + 1) (by omega)
      · rw [if_neg e, if_neg e]
    · rw [if_neg hp, if_pos (nI_le (by omega) (by omega))]
theorem ok_judge (hX : XP h w) (hM : MP h w) (V : WV w) : OK2 X m_X_judge m_M_judge [] h := by
  refine OK2.go (r := judF (wt w) (wg w) (wr w) 0) hM V (wv_clr V) ⟨_, ?_, xp_clr hX, FM.up (by unfold pXa; decide)⟩ fun h1 H i1 i2 R => ⟨_, ?_, mp_clr R, FM.up (by unfold pMa; decide)⟩
  · rw [e_X_judge]
    exact s_judF hX V (wr w) 0 none (Nat.zero_add _)
  · have h12 := V.2.2.2.2.2.2.1
    rw [e_M_judge, i1, i2, R.2.2.2.2.1.1]
    exact m_judF (h := (zup H.1 123 32 0, H.2)) (R.1.1.fld (by decide)) V.1.1.1 h12 (fun j hj => by dsimp only; rw [zup_nc (by decide)]; exact R.2.2.2.2.1.2 j hj) (wr w) 0 (Nat.zero_add _)
theorem s_tldF (hX0 : XP h0 w) (V : WV w) {p : Nat} : ∀ (m i : Nat) (t : zT) (h : zH), p < tn t → i + m = wr w → MD h0 t h → ∃ h', zrn X 5 m_X_turnsAsTold 2 [some (.ref 1), some (.int (nI p)), some (.int (nI i))] [] h = some (some (.int (if tldF (wg w) p m i t = true then 1 else 0)), h') ∧ FM pXq h0 h' := by
  have h12 := V.2.2.2.2.2.2.1
  intro m
  induction m with
  | zero =>
    intro i t h hp hi D
    have e8 : h.1 1 8 = nI (wr w) := (D.2.1 1 8 (by unfold pXq; omega)).trans hX0.2.2.2.2.1.1
    refine ⟨h, ?_, D.2.1⟩
    rw [b_X_turnsAsTold_2, e8, if_pos (nI_le (by omega) (by omega))]
    rfl
  | succ m ih =>
    intro i t h hp hi D
    have e8 : h.1 1 8 = nI (wr w) := (D.2.1 1 8 (by unfold pXq; omega)).trans hX0.2.2.2.2.1.1
    have e73 : h.1 73 i = wg w i := (D.2.1 73 i (by unfold pXq; omega)).trans (hX0.2.2.2.2.1.2 i (by omega))
    rw [b_X_turnsAsTold_2, e8, if_neg (nI_ge (by omega) (by omega)), s_facesOf hH_8 D.1 D.2.2.1 hp, zbI_some, s_at zc_73 (by decide) (show i < 12 by omega) (by decide), zbI_some, e73, tldF_s, nI_add1]
    by_cases e : tD t p = wg w i
    · obtain ⟨h1, a1, a2, -⟩ := D.night (X := X) (-9)
      rw [if_pos e, if_pos e, a1, zbV_some]
      exact ih (i + 1) _ h1 (by rw [(night_V D.2.2 (-9)).2]; exact hp) (by omega) a2
    · rw [if_neg e, if_neg e]
      exact ⟨h, rfl, D.2.1⟩
theorem whS_V {k : Nat} (hk : k < 3) {t : zT} (V : tV t) {p i : Nat} (hi : i < whL k) : tV (whS k t p i) ∧ tn (whS k t p i) = tn t := by
  unfold whL at hi
  unfold whS
  have : k = 0 ∨ k = 1 ∨ k = 2 := by omega
  rcases this with rfl | rfl | rfl
  · exact ⟨V.wK ⟨i, hi, rfl⟩, rfl⟩
  · exact ⟨V.wF ⟨i, hi, rfl⟩, rfl⟩
  · exact ⟨V.wD ⟨i, hi, rfl⟩, rfl⟩
theorem whL_le {k : Nat} : whL k ≤ 10 := by unfold whL; split; · decide
                                            · split <;> decide
def whT (w : zW) (k p i : Nat) : Bool := tldF (wg w) p (wr w) 0 (whS k (wt w) p i)
theorem s_whF (hX0 : XP h0 w) (V : WV w) {p k : Nat} {f3 : Int32} (hk : k < 3) (hp : p < tn (wt w)) : ∀ (m i : Nat) (h : zH) (b : Int32), i + m = whL k → FM pXq h0 h → ∃ h', zrn X 6 m_X_which 46 [some (.ref 1), some (.int (nI p)), some (.int (nI k)), some (.int f3), some (.int (nI (whL k))), some (.int b), some (.int (nI i))] [] h = some (some (.int (whF (whT w k p) m i b)), h') ∧ FM pXq h0 h' := by
  have h6 : tn (wt w) ≤ 6 := V.1.1.1
  have hl := @whL_le k
  intro m
  induction m with
  | zero =>
    intro i h b hi F
    refine ⟨h, ?_, F⟩
    rw [b_X_which_46, if_pos (nI_le (by omega) (by omega))]
    rfl
  | succ m ih =>
    intro i h b hi F
    obtain ⟨h1, a1, a2⟩ := s_mind (X := X) (hX0.qry F) V
    obtain ⟨v1, v2⟩ := whS_V (t := wt w) hk V.1.1 (p := p) (i := i) (by omega)
    have step : ∀ (h2 : zH), MD h (whS k (wt w) p i) h2 → ∃ h3, zcf X m_X_turnsAsTold [.ref 1, .int (nI p)] h2 = some (some (.int (if whT w k p i = true then 1 else 0)), h3) ∧ FM pXq h0 h3 := by
      intro h2 D
      obtain ⟨h3, c1, c2⟩ := s_tldF (X := X) (hX0.qry F) V (wr w) 0 (whS k (wt w) p i) h2 (Nat.lt_of_lt_of_eq hp v2.symm) (Nat.zero_add _) D
      exact ⟨h3, by rw [e_X_turnsAsTold]; exact c1, F.tr c2⟩
    have nx := fun h b => ih (i + 1) h b (by omega)
    have fin : ∀ (h2 : zH), MD h (whS k (wt w) p i) h2 → ∃ h', (zbI (zcf X m_X_turnsAsTold [.ref 1, .int (nI p)] h2) fun v4 h3 => (if v4 = 0 then zrn X 6 m_X_which 46 [some (.ref 1), some (.int (nI p)), some (.int (nI k)), some (.int f3), some (.int (nI (whL k))), some (.int (b ||| 0)), some (.int (nI i + 1))] [] h3 else (zbI (zcf X m_X_bitOf [.int (nI i)] h3) fun v6 h5 => zrn X 6 m_X_which 46 [some (.ref 1), some (.int (nI p)), some (.int (nI k)), some (.int f3), some (.int (nI (whL k))), some (.int (b ||| v6)), some (.int (nI i + 1))] [] h5))) = some (some (.int (whF (whT w k p) (m + 1) i b)), h') ∧ FM pXq h0 h' := by
      intro h2 D
      obtain ⟨h3, c1, c2⟩ := step h2 D
      rw [c1, zbI_some, nI_add1, whF_s]
      by_cases T : whT w k p i = true
      · rw [if_pos T, if_neg (show ¬ (1 : Int32) = 0 by decide), s_bitOf (by omega), zbI_some, if_pos T]
        exact nx h3 _ c2
      · rw [if_neg T, if_pos (show (0 : Int32) = 0 from rfl), if_neg T]
        exact nx h3 _ c2
    rw [b_X_which_46, if_neg (nI_ge (by omega) (by omega)), a1, zbV_some]
    have : k = 0 ∨ k = 1 ∨ k = 2 := by omega
    rcases this with rfl | rfl | rfl
    · rw [if_pos (show nI 0 = 0 from rfl), e_H_beOfKind hH_8, s_put (b := 8 + 1) (hH_8.k0) (by decide) (show p < 6 by omega) (by decide), zbV_some, zbV_some]
      exact fin _ (a2.go (HR.uK a2.1) (FM.up (by unfold pXq; decide)) v1)
    · rw [if_neg (show ¬ nI 1 = 0 by decide), if_pos (show nI 1 = 1 from rfl), e_H_beOfFigure hH_8, s_put (b := 8 + 2) (hH_8.k1) (by decide) (show p < 6 by omega) (by decide), zbV_some, zbV_some]
      exact fin _ (a2.go (HR.uF a2.1) (FM.up (by unfold pXq; decide)) v1)
    · rw [if_neg (show ¬ nI 2 = 0 by decide), if_neg (show ¬ nI 2 = 1 by decide), s_face hH_8 (by omega), zbV_some]
      exact fin _ (a2.go (HR.uD a2.1) (FM.up (by unfold pXq; decide)) v1)
/-- the model: behind the first number there is a night before each -/
theorem m_isRowF (R0 : MP h0 w) (V : WV w) {p : Nat} : ∀ (m i : Nat) (t : zT) (h : zH), p < tn t → 1 ≤ i → i + m = wr w → TH h0 t h → ∃ h', zrn X 6 m_M_isRow 4 [some (.ref 123), some (.int (nI p)), some (.int 1), some (.int (nI i))] [] h = some (some (.int (if tldF (wg w) p m i (night t (-9)).1 = true then 1 else 0)), h') ∧ BK h0 h' := by
  have h12 := V.2.2.2.2.2.2.1
  intro m
  induction m with
  | zero =>
    intro i t h hp h1 hi T
    have e32 : h.1 123 32 = nI (wr w) := (T.2.1.2 123 32 (by unfold pS; omega)).trans R0.2.2.2.2.1.1
    obtain ⟨h2, b1, b2⟩ := T.bk (X := X)
    refine ⟨h2, ?_, b2⟩
    rw [b_M_isRow_4, e32, if_pos (nI_le (by omega) (by omega)), b1, zbV_some, if_pos (show (1 : Int32) = 0 ∨ (1 : Int32) = 1 from Or.inr rfl)]
    rfl
  | succ m ih =>
    intro i t h hp h1 hi T
    have h6 := T.2.2.1
    have e32 : h.1 123 32 = nI (wr w) := (T.2.1.2 123 32 (by unfold pS; omega)).trans R0.2.2.2.2.1.1
    obtain ⟨h2, a1, a2, -, -, a5⟩ := T.night (X := X) (-9)
    have en := (night_V T.2.2 (-9)).2
    have e139 : h2.1 139 i = wg w i := (a2.2.1.2 139 i (by unfold pS; omega)).trans (R0.2.2.2.2.1.2 i (by omega))
    rw [b_M_isRow_4, e32, if_neg (nI_ge (by omega) (by omega)), if_neg (show ¬ (1 : Int32) = 0 by decide), if_neg (show ¬ nI i ≤ (0 : Int32) from nI_ge (b := i) (a := 0) (by omega) (by omega)), a1, zbV_some, if_pos (zin_nI (by omega) (by decide)), if_pos (zin_nI (by omega) (by decide)), nI_clamp (by omega), nI_clamp (by omega), e139, (a2.1.2 p (by omega)).2.2.2.1, tldF_s, nI_add1]
    by_cases e : tD (night t (-9)).1 p = wg w i
    · rw [if_pos e, if_pos e]
      exact ih (i + 1) _ h2 (by omega) (by omega) (by omega) a2
    · rw [if_neg e, if_neg e]
      obtain ⟨h3, b1, b2⟩ := a2.bk (X := X)
      refine ⟨h3, ?_, b2⟩
      rw [b_M_isRow_4, if_pos (show (0 : Int32) = 0 from rfl), b1, zbV_some, if_pos (show (0 : Int32) = 0 ∨ (0 : Int32) = 1 from Or.inl rfl), ite_self]
      rfl
theorem m_isRow (R0 : MP h0 w) (V : WV w) {p : Nat} (hp : p < tn t) (T : TH h0 t h) : ∃ h', zcf X m_M_isRow [.ref 123, .int (nI p)] h = some (some (.int (if tldF (wg w) p (wr w) 0 t = true then 1 else 0)), h') ∧ BK h0 h' := by
  have h12 := V.2.2.2.2.2.2.1
  have h6 := T.2.2.1
  have e32 : h.1 123 32 = nI (wr w) := (T.2.1.2 123 32 (by unfold pS; omega)).trans R0.2.2.2.2.1.1
  rw [e_M_isRow]
  by_cases hr : wr w = 0
  · obtain ⟨h2, b1, b2⟩ := T.bk (X := X)
    refine ⟨h2, ?_, b2⟩
    rw [b_M_isRow_4, e32, hr, if_pos (show nI 0 ≤ (0 : Int32) by decide), b1, zbV_some, if_pos (show (1 : Int32) = 0 ∨ (1 : Int32) = 1 from Or.inr rfl)]
    rfl
  · obtain ⟨m, hm⟩ : ∃ m, wr w = m + 1 := ⟨wr w - 1, by omega⟩
    have e139 : h.1 139 0 = wg w 0 := (T.2.1.2 139 0 (by unfold pS; omega)).trans (R0.2.2.2.2.1.2 0 (by omega))
    rw [b_M_isRow_4, e32, if_neg (show ¬ nI (wr w) ≤ (0 : Int32) from nI_ge (b := wr w) (a := 0) (by omega) (by omega)), if_neg (show ¬ (1 : Int32) = 0 by decide), if_pos (show (0 : Int32) ≤ 0 by decide), if_pos (zin_nI (by omega) (by decide)), if_pos (show zin (0 : Int32) 12 = true from zin_nI (p := 0) (by decide) (by decide)), nI_clamp (by omega), show Int32.toNatClampNeg (0 : Int32) = 0 from rfl, e139, (T.1.2 p hp).2.2.2.1]
    rw [hm, tldF_s]
    by_cases e : tD t p = wg w 0
    · rw [if_pos e, if_pos e]
      exact m_isRowF (X := X) R0 V m 1 t h hp (Nat.le_refl _) (by omega) T
    · rw [if_neg e, if_neg e]
      obtain ⟨h3, b1, b2⟩ := T.bk (X := X)
      refine ⟨h3, ?_, b2⟩
      rw [b_M_isRow_4, if_pos (show (0 : Int32) = 0 from rfl), b1, zbV_some, if_pos (show (0 : Int32) = 0 ∨ (0 : Int32) = 1 from Or.inl rfl), ite_self]
      rfl
theorem whLv {k : Nat} (hk : k < 3) : (if nI k = 0 then (6 : Int32) else (if nI k = 1 then (10 : Int32) else 4)) = nI (whL k) := by
  have : k = 0 ∨ k = 1 ∨ k = 2 := by omega
  rcases this with rfl | rfl | rfl <;> decide
theorem m_whF (R0 : MP h0 w) (V : WV w) {p k : Nat} {f3 : Int32} (hk : k < 3) (hp : p < tn (wt w)) : ∀ (m i : Nat) (h : zH) (b : Int32), i + m = whL k → BK h0 h → ∃ h', zrn X 7 m_M_which 44 [some (.ref 123), some (.int (nI p)), some (.int (nI k)), some (.int f3), some (.int b), some (.int (nI i))] [] h = some (some (.int (whF (whT w k p) m i b)), h') ∧ BK h0 h' := by
  have h6 : tn (wt w) ≤ 6 := V.1.1.1
  have hl := @whL_le k
  intro m
  induction m with
  | zero =>
    intro i h b hi K
    refine ⟨h, ?_, K⟩
    rw [b_M_which_44, whLv hk, if_pos (nI_le (by omega) (by omega))]
    rfl
  | succ m ih =>
    intro i h b hi K
    have T := K.th R0 V
    obtain ⟨v1, v2⟩ := whS_V (t := wt w) hk V.1.1 (p := p) (i := i) (by omega)
    have fin : ∀ (h2 : zH), TH h0 (whS k (wt w) p i) h2 → ∃ h', (zbI (zcf X m_M_isRow [.ref 123, .int (nI p)] h2) fun v4 h3 => zrn X 7 m_M_which 44 [some (.ref 123), some (.int (nI p)), some (.int (nI k)), some (.int f3), some (.int (b ||| (if v4 = 0 then (0 : Int32) else ((1 : Int32) <<< (nI i &&& 31))))), some (.int (nI i + 1))] [] h3) = some (some (.int (whF (whT w k p) (m + 1) i b)), h') ∧ BK h0 h' := by
      intro h2 D
      obtain ⟨h3, c1, c2⟩ := m_isRow (X := X) (t := whS k (wt w) p i) R0 V (Nat.lt_of_lt_of_eq hp v2.symm) D
      rw [c1, zbI_some, nI_add1, whF_s]
      have e : (if (if tldF (wg w) p (wr w) 0 (whS k (wt w) p i) = true then (1 : Int32) else 0) = 0 then (0 : Int32) else ((1 : Int32) <<< (nI i &&& 31))) = if whT w k p i = true then bt i else 0 := by
        unfold whT bt
        by_cases z : tldF (wg w) p (wr w) 0 (whS k (wt w) p i) = true
        · rw [if_pos z, if_pos z, if_neg (by decide)]
        · rw [if_neg z, if_neg z, if_pos rfl]
      rw [e]
      exact ih (i + 1) h3 _ (by omega) c2
    have u : ∀ {h1 : zH} {b j : Nat} {v : Int32} {t1 : zT}, TH h0 t1 h1 → (b = 124 ∨ b = 125 ∨ b = 127) → FM pT h1 (zup h1.1 b j v, h1.2) := fun _ hb => FM.up (by unfold pT pS; omega)
    rw [b_M_which_44, whLv hk, if_neg (nI_ge (by omega) (by omega))]
    have : k = 0 ∨ k = 1 ∨ k = 2 := by omega
    rcases this with rfl | rfl | rfl
    · simp only [show (nI 0 = 0) = True from eq_true rfl, show (nI 0 = 1) = False from eq_false (by decide), show (nI 0 = 2) = False from eq_false (by decide), if_true, if_false, zin_nI (show p < 7 by omega) (show 7 < 2 ^ 31 by decide), zup_self, nI_clamp (show p < 2 ^ 31 by omega)]
      exact fin _ (T.go (MR.uK T.1) (u T (Or.inl rfl)) v1)
    · simp only [show (nI 1 = 0) = False from eq_false (by decide), show (nI 1 = 1) = True from eq_true rfl, show (nI 1 = 2) = False from eq_false (by decide), if_true, if_false, zin_nI (show p < 7 by omega) (show 7 < 2 ^ 31 by decide), zup_self, nI_clamp (show p < 2 ^ 31 by omega)]
      exact fin _ (T.go (MR.uF T.1) (u T (Or.inr (Or.inl rfl))) v1)
    · simp only [show (nI 2 = 0) = False from eq_false (by decide), show (nI 2 = 1) = False from eq_false (by decide), show (nI 2 = 2) = True from eq_true rfl, if_true, if_false, zin_nI (show p < 7 by omega) (show 7 < 2 ^ 31 by decide), zup_self, nI_clamp (show p < 2 ^ 31 by omega)]
      exact fin _ (T.go (MR.uD T.1) (u T (Or.inr (Or.inr rfl))) v1)
theorem ok_which (hX : XP h w) (hM : MP h w) (V : WV w) {x y : Int32} : OK2 X m_X_which m_M_which [.int x, .int y] h := by
  refine OK2.wh (last := 2) (A := fun X x y v h1 => zrn X 6 m_X_which 46 [some (.ref 1), some (.int x), some (.int y), some (.int v), some (.int (if y = 0 then (6 : Int32) else (if y = 1 then (10 : Int32) else 4))), some (.int 0), some (.int 0)] [] h1) (B := fun X x y v h4 => (zbV (zcf X m_M_think [.ref 123] h4) fun h6 => zrn X 7 m_M_which 44 [some (.ref 123), some (.int x), some (.int y), some (.int v), some (.int 0), some (.int 0)] [] h6)) (by decide) hX hM V e_X_which (fun _ => e_M_which) fun p hp hx hy => ?_
  obtain ⟨k, hk, hky⟩ := hy
  refine ⟨whF (whT w k p) (whL k) 0 0, ?_, fun H R => ?_⟩
  · rw [hx, hky, whLv hk]
    exact s_whF hX V hk hp (whL k) 0 h 0 (Nat.zero_add _) FM.rf
  · obtain ⟨h1, a1, a2⟩ := m_think2 (X := X) H
    obtain ⟨h2, b1, b2⟩ := m_whF (X := X) (f3 := 0) R V hk hp (whL k) 0 h1 0 (Nat.zero_add _) a2
    refine ⟨h2, ?_, b2.mp R V, b2.pM⟩
    rw [hx, hky, a1, zbV_some]
    exact b1
end z54
