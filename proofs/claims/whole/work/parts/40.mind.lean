/-! what is tried in mind -/
/-- the class: the hill in mind is t -/
def MD (h0 : zH) (t : zT) (h : zH) : Prop := HR h 8 t ∧ FM pXq h0 h ∧ tV t
/-- the model: it thinks, and stands at t -/
def TH (h0 : zH) (t : zT) (h : zH) : Prop := MR h t ∧ KT h0 h ∧ tV t
section z40
variable {X : zX} {h h0 : zH} {w : zW} {mx mm : zM} {as : List Value} {t : zT}
theorem s_mind (hX : XP h w) (V : WV w) : ∃ h1, zcf X m_H_become [.ref 8, .ref 2] h = some (none, h1) ∧ MD h (wt w) h1 := by
  obtain ⟨h1, a1, a2, a3, a4⟩ := s_become (X := X) hH_8 hH_2 (by decide) hX.1.1 V.1.1.1
  exact ⟨h1, a1, a2, a4.fm fun b j h1 h2 => Or.inl ⟨h1, h2⟩, V.1.1⟩
theorem MD.night (D : MD h0 t h) (sl : Int32) : ∃ h', zcf X m_H_nightWithout [.ref 8, .int sl] h = some (none, h') ∧ MD h0 (night t sl).1 h' ∧ h'.1 8 7 = (night t sl).2.1 ∧ h'.1 8 8 = (night t sl).2.2.1 := by
  obtain ⟨h1, a1, a2, a3, a4, a5, a6⟩ := s_night (X := X) hH_8 D.1 D.2.2 sl
  exact ⟨h1, a1, ⟨a2, D.2.1.tr (a6.fm fun b j h1 h2 => Or.inl ⟨h1, h2⟩), (night_V D.2.2 sl).1⟩, a3, a4⟩
theorem MD.back (hX : XP h w) (D : MD h t h0) : XP h0 w := hX.qry D.2.1
theorem MD.go {h1 : zH} {t1 : zT} (D : MD h0 t h) (R : HR h1 8 t1) (f : FM pXq h h1) (v : tV t1) : MD h0 t1 h1 := ⟨R, D.2.1.tr f, v⟩
theorem TH.think (R : MP h w) (V : WV w) : ∃ h1, zcf X m_M_think [.ref 123] h = some (none, h1) ∧ TH h (wt w) h1 := by
  obtain ⟨h1, a1, a2, a3, a4⟩ := m_think (X := X) R.1.1 V.1.1.1
  exact ⟨h1, a1, a2, a3, V.1.1⟩
theorem TH.night (T : TH h0 t h) (sl : Int32) : ∃ h', zcf X m_M_nightBy [.ref 123, .int sl] h = some (none, h') ∧ TH h0 (night t sl).1 h' ∧ h'.1 123 10 = (night t sl).2.1 ∧ h'.1 123 9 = (night t sl).2.2.2 ∧ FS pN h h' := by
  obtain ⟨h1, a1, a2, a3, a4, a5, a6⟩ := m_night (X := X) T.1 T.2.2 sl
  exact ⟨h1, a1, ⟨a2, T.2.1.go (a6.fm.mono fun b j z => pN_pT z), (night_V T.2.2 sl).1⟩, a3, a4, a6⟩
theorem TH.go {h1 : zH} {t1 : zT} (T : TH h0 t h) (R : MR h1 t1) (f : FM pT h h1) (v : tV t1) : TH h0 t1 h1 := ⟨R, T.2.1.go f, v⟩
theorem TH.again (T : TH h0 t h) (R : MP h0 w) (V : WV w) : ∃ h1, zcf X m_M_again [.ref 123] h = some (none, h1) ∧ MP h1 w ∧ FM pMa h0 h1 := by
  obtain ⟨h1, a1, a2, a3, a4⟩ := m_again (X := X) T.2.1
  exact ⟨h1, a1, R.back V a2 a3, a2.pM⟩
/-- so many nights of 0 .. 60 are told: both refuse alike -/
theorem OK2.n60 {x : Int32} {A B : zH → Option (Option Value × zH)} (hX : XP h w) (hM : MP h w) (V : WV w) (ex : zcf X mx [.ref 1, .int x] h = (if 0 ≤ x then (if x ≤ 60 then A h else (zbI (zcf X m_X_refuse [.ref 1, .int (-6)] h) fun v2 h1 => (some (some (.int v2), h1)))) else (zbI (zcf X m_X_refuse [.ref 1, .int (-4)] h) fun v4 h3 => (some (some (.int v4), h3))))) (em : ∀ h : zH, zcf X mm [.ref 123, .int x] h = (zbI (zcf X m_M_wrongNumber [.int x, .int 0, .int 60] ((zup h.1 123 7 0), h.2)) fun v2 h1 => (if 0 ≤ v2 then B h1 else (zbI (zcf X m_M_wrongNumber [.int x, .int 0, .int 60] h1) fun v5 h4 => (zbI (zcf X m_M_refuse [.ref 123, .int v5] h4) fun v7 h6 => (some (some (.int v7), h6))))))) (go : ∀ n, n < 61 → x = nI n → ∃ r, (∃ h1, A h = some (some (.int r), h1) ∧ FM pXq h h1) ∧ ∀ H : zH, MP H w → ∃ h2, B H = some (some (.int r), h2) ∧ MP h2 w ∧ FM pMa H h2) : OK2 X mx mm [.int x] h := by
  by_cases h0 : 0 ≤ x
  · by_cases h1 : x ≤ 60
    · obtain ⟨n, hn, e⟩ := rg_le (n := 60) (by decide) h0 h1
      obtain ⟨r, ⟨h2, a1, a2⟩, b⟩ := go n hn e
      refine OK2.qy (r := r) hX hM V ⟨h2, ?_, a2⟩ fun h1' H i1 i2 R => ?_
      · rw [ex, if_pos h0, if_pos h1, a1]
      · obtain ⟨h3, b1, b2, b3⟩ := b H R
        refine ⟨h3, ?_, b2, b3⟩
        rw [em, i1, i2, m_wrongN, zbI_some, if_pos h0, if_pos h1, if_pos (show (0 : Int32) ≤ 0 by decide)]
        exact b1
    · refine OK2.no (x := -6) 6 hX hM V (by decide) (by decide) (by decide) ?_ fun h1' H i1 i2 R => ⟨H, ?_, R, FM.rf⟩
      · rw [ex, if_pos h0, if_neg h1, zrx6]
      · rw [em, i1, i2, m_wrongN, zbI_some, if_pos h0, if_neg h1, if_neg (show ¬ (0 : Int32) ≤ -6 by decide), m_wrongN, zbI_some, if_pos h0, if_neg h1, zrm6]
  · refine OK2.no (x := -4) 4 hX hM V (by decide) (by decide) (by decide) ?_ fun h1' H i1 i2 R => ⟨H, ?_, R, FM.rf⟩
    · rw [ex, if_neg h0, zrx4]
    · rw [em, i1, i2, m_wrongN, zbI_some, if_neg h0, if_neg (show ¬ (0 : Int32) ≤ -4 by decide), m_wrongN, zbI_some, if_neg h0, zrm4]
theorem nts_s {m : Nat} : nts t (m + 1) = nts (night t (-9)).1 m := rfl
theorem s_lookF (e : Nat) (he : e < 61) : ∀ (m i : Nat) (t : zT) (h : zH), i + m = e → MD h0 t h → ∃ h', zrn X 5 m_X_lookAhead 13 [some (.ref 1), some (.int (nI e)), some (.int (nI i))] [] h = some (none, h') ∧ MD h0 (nts t m) h' := by
  intro m
  induction m with
  | zero =>
    intro i t h hi D
    exact ⟨h, by rw [b_X_lookAhead_13, if_pos (nI_le (by omega) (by omega))], D⟩
  | succ m ih =>
    intro i t h hi D
    obtain ⟨h1, a1, a2, -⟩ := D.night (X := X) (-9)
    obtain ⟨h2, b1, b2⟩ := ih (i + 1) _ h1 (by omega) a2
    refine ⟨h2, ?_, by rw [nts_s]; exact b2⟩
    rw [b_X_lookAhead_13, if_neg (nI_ge (by omega) (by omega)), a1, zbV_some, nI_add1, b1]
theorem s_look (hX : XP h w) (V : WV w) {n : Nat} (hn : n < 61) : ∃ h', zcf X m_X_lookAhead [.ref 1, .int (nI n)] h = some (none, h') ∧ MD h (nts (wt w) n) h' := by
  obtain ⟨h1, a1, a2⟩ := s_mind (X := X) hX V
  obtain ⟨h2, b1, b2⟩ := s_lookF (X := X) n hn n 0 (wt w) h1 (Nat.zero_add _) a2
  refine ⟨h2, ?_, b2⟩
  rw [e_X_lookAhead, a1, zbV_some]
  exact b1
theorem TH.nights (T : TH h0 t h) {e : Nat} (he : e < 2 ^ 31) : ∃ h', zcf X m_M_goNights [.ref 123, .int (nI e)] h = some (none, h') ∧ TH h0 (nts t e) h' := by
  obtain ⟨h1, a1, a2, a3, a4⟩ := m_goNights (X := X) T.1 T.2.2 he
  exact ⟨h1, a1, a2, T.2.1.go (a4.fm.mono fun b j z => pN_pT z), (nts_V e t T.2.2).1⟩
theorem ok_allStarts (hX : XP h w) (hM : MP h w) (V : WV w) {x : Int32} : OK2 X m_X_allStarts m_M_allStarts [.int x] h := by
  refine OK2.n60 (A := fun h => zbV (zcf X m_X_lookAhead [.ref 1, .int x] h) fun h1 => (zbI (zcf X m_H_startsTogether [.ref 8] h1) fun v3 h2 => (some (some (.int v3), h2)))) (B := fun h1 => zbV (zcf X m_M_think [.ref 123] h1) fun h3 => (zbV (zcf X m_M_goNights [.ref 123, .int x] h3) fun h4 => (zbI (zcf X m_M_allOfStarts [.ref 123] h4) fun v6 h5 => (zbV (zcf X m_M_again [.ref 123] h5) fun h7 => (some (some (.int v6), h7)))))) hX hM V e_X_allStarts (fun _ => e_M_allStarts) fun n hn e => ⟨sto (nts (wt w) n), ?_, fun H R => ?_⟩
  · obtain ⟨h1, a1, a2⟩ := s_look (X := X) hX V hn
    refine ⟨h1, ?_, a2.2.1⟩
    rw [e, a1, zbV_some, s_startsTogether hH_8 a2.1 a2.2.2.1, zbI_some]
  · obtain ⟨h1, a1, a2⟩ := TH.think (X := X) R V
    obtain ⟨h2, b1, b2⟩ := a2.nights (X := X) (e := n) (by omega)
    obtain ⟨h3, c1, c2, c3⟩ := b2.again (X := X) R V
    refine ⟨h3, ?_, c2, c3⟩
    rw [e, a1, zbV_some, b1, zbV_some, m_allOfStarts b2.1 b2.2.2.1, zbI_some, c1, zbV_some]
/-- whether none has started in so many nights -/
def quiF : Nat → zT → Int32
  | 0, _ => 1
  | m + 1, t => if (night t (-9)).2.1 = 0 then quiF m (night t (-9)).1 else 0
theorem quiF_s {m : Nat} : quiF (m + 1) t = if (night t (-9)).2.1 = 0 then quiF m (night t (-9)).1 else 0 := rfl
theorem s_quiF (e : Nat) (he : e < 61) : ∀ (m i : Nat) (t : zT) (h : zH), i + m = e → MD h0 t h → ∃ h', zrn X 5 m_X_quiet 37 [some (.ref 1), some (.int (nI e)), some (.int (nI i))] [] h = some (some (.int (quiF m t)), h') ∧ FM pXq h0 h' := by
  intro m
  induction m with
  | zero =>
    intro i t h hi D
    refine ⟨h, ?_, D.2.1⟩
    rw [b_X_quiet_37, if_pos (nI_le (by omega) (by omega))]
    rfl
  | succ m ih =>
    intro i t h hi D
    obtain ⟨h1, a1, a2, a3, a4⟩ := D.night (X := X) (-9)
    rw [b_X_quiet_37, if_neg (nI_ge (by omega) (by omega)), a1, zbV_some, nI_add1, a3, quiF_s]
    by_cases q : (night t (-9)).2.1 = 0
    · rw [if_pos q, if_pos q]
      exact ih (i + 1) _ h1 (by omega) a2
    · rw [if_neg q, if_neg q]
      exact ⟨h1, rfl, a2.2.1⟩
theorem m_quiF (R0 : MP h0 w) (V : WV w) (e : Nat) (he : e < 61) : ∀ (m i : Nat) (b : Bool) (t : zT) (h : zH), i + m = e → TH h0 t h → ∃ h', zrn X 6 m_M_quiet 35 [some (.ref 123), some (.int (nI e)), some (.int (if b = true then 1 else 0)), some (.int (nI i))] [] h = some (some (.int (if b = true then quiF m t else 0)), h') ∧ MP h' w ∧ FM pMa h0 h' := by
  intro m
  induction m with
  | zero =>
    intro i b t h hi T
    obtain ⟨h1, a1, a2, a3⟩ := T.again (X := X) R0 V
    refine ⟨h1, ?_, a2, a3⟩
    rw [b_M_quiet_35, if_pos (nI_le (by omega) (by omega)), a1, zbV_some]
    cases b
    · rfl
    · rfl
  | succ m ih =>
    intro i b t h hi T
    obtain ⟨h1, a1, a2, a3, a4⟩ := T.night (X := X) (-9)
    rw [b_M_quiet_35, if_neg (nI_ge (by omega) (by omega)), a1, zbV_some, nI_add1, a3, quiF_s]
    cases b
    · exact ih (i + 1) false _ h1 (by omega) a2
    · rw [if_neg (show ¬ (if true = true then (1 : Int32) else 0) = 0 by decide), if_pos (show true = true from rfl)]
      by_cases q : (night t (-9)).2.1 = 0
      · rw [if_pos q, if_pos q]
        exact ih (i + 1) true _ h1 (by omega) a2
      · rw [if_neg q, if_neg q]
        exact ih (i + 1) false _ h1 (by omega) a2
theorem ok_quiet (hX : XP h w) (hM : MP h w) (V : WV w) {x : Int32} : OK2 X m_X_quiet m_M_quiet [.int x] h := by
  refine OK2.n60 (A := fun h => zbV (zcf X m_H_become [.ref 8, .ref 2] h) fun h1 => zrn X 5 m_X_quiet 37 [some (.ref 1), some (.int x), some (.int 0)] [] h1) (B := fun h1 => zbV (zcf X m_M_think [.ref 123] h1) fun h3 => zrn X 6 m_M_quiet 35 [some (.ref 123), some (.int x), some (.int 1), some (.int 0)] [] h3) hX hM V e_X_quiet (fun _ => e_M_quiet) fun n hn e => ⟨quiF n (wt w), ?_, fun H R => ?_⟩
  · obtain ⟨h1, a1, a2⟩ := s_mind (X := X) hX V
    rw [e, a1, zbV_some]
    exact s_quiF n hn n 0 _ h1 (Nat.zero_add _) a2
  · obtain ⟨h1, a1, a2⟩ := TH.think (X := X) R V
    rw [e, a1, zbV_some]
    exact m_quiF R V n hn n 0 true _ h1 (Nat.zero_add _) a2
end z40
