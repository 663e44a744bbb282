/-! first, meets -/
/-- the first night of so many on which it is so -/
def frsF (P : zT → Bool) : Nat → Nat → zT → Int32
  | 0, _, _ => -9
  | m + 1, i, t => if P t = true then nI i else frsF P m (i + 1) (night t (-9)).1
theorem frsF_s {P : zT → Bool} {m i : Nat} {t : zT} : frsF P (m + 1) i t = if P t = true then nI i else frsF P m (i + 1) (night t (-9)).1 := rfl
def fstP (p : Nat) (y : Int32) (t : zT) : Bool := if y = 0 then decide (wat t (nI p) ≠ 0) else decide (lns t p ≠ -9)
def metP (p q : Nat) (t : zT) : Bool := decide (apt (tC t p) (tC t q) = 1)
theorem gt60 {i : Nat} (h : i < 61) : ¬ (60 : Int32) < nI i := nI_nlt (a := 60) (b := i) (by omega) (by omega)
theorem b01' {c : Prop} [Decidable c] {α : Type} {a b : α} : (if (if c then (0 : Int32) else 1) = 0 then a else b) = if c then a else b := by
  by_cases q : c
  · rw [if_pos q, if_pos q, if_pos rfl]
  · rw [if_neg q, if_neg q, if_neg (by decide)]
section z41
variable {X : zX} {h h0 : zH} {w : zW} {mx mm : zM} {as : List Value} {t : zT}
theorem s_fstF {p : Nat} {y f : Int32} : ∀ (m i : Nat) (t : zT) (h : zH) (g : Option Value), p < tn t → i + m = 61 → MD h0 t h → ∃ h', zrn X 5 m_X_first 32 [some (.ref 1), some (.int (nI p)), some (.int y), some (.int f), some (.int (nI i)), g] [] h = some (some (.int (frsF (fstP p y) m i t)), h') ∧ FM pXq h0 h' := by
  intro m
  induction m with
  | zero =>
    intro i t h g hp hi D
    have : i = 61 := by omega
    subst this
    exact ⟨h, by rw [b_X_first_32, if_pos (by decide)]; rfl, D.2.1⟩
  | succ m ih =>
    intro i t h g hp hi D
    obtain ⟨h1, a1, a2, -⟩ := D.night (X := X) (-9)
    have hn : p < tn (night t (-9)).1 := by rw [(night_V D.2.2 (-9)).2]; exact hp
    rw [b_X_first_32, if_neg (gt60 (by omega)), frsF_s, nI_add1]
    by_cases hy : y = 0
    · rw [if_pos hy, s_watchers hH_8 D.1 D.2.2, zbI_some, b01']
      have e : fstP p y t = decide (wat t (nI p) ≠ 0) := by unfold fstP; rw [if_pos hy]
      by_cases q : wat t (nI p) = 0
      · rw [if_pos q, if_neg (show ¬ fstP p y t = true by rw [e]; simp [q]), a1, zbV_some]
        exact ih (i + 1) _ h1 _ hn (by omega) a2
      · rw [if_neg q, if_pos (show fstP p y t = true by rw [e]; simp [q])]
        exact ⟨h, rfl, D.2.1⟩
    · rw [if_neg hy, s_inLens hH_8 D.1 D.2.2 hp, zbI_some, b01']
      have e : fstP p y t = decide (lns t p ≠ -9) := by unfold fstP; rw [if_neg hy]
      by_cases q : lns t p = -9
      · rw [if_pos q, if_neg (show ¬ fstP p y t = true by rw [e]; simp [q]), a1, zbV_some]
        exact ih (i + 1) _ h1 _ hn (by omega) a2
      · rw [if_neg q, if_pos (show fstP p y t = true by rw [e]; simp [q])]
        exact ⟨h, rfl, D.2.1⟩
theorem s_metF {p q : Nat} : ∀ (m i : Nat) (t : zT) (h : zH), p < tn t → q < tn t → i + m = 61 → MD h0 t h → ∃ h', zrn X 5 m_X_meets 28 [some (.ref 1), some (.int (nI p)), some (.int (nI q)), some (.int (nI i))] [] h = some (some (.int (frsF (metP p q) m i t)), h') ∧ FM pXq h0 h' := by
  intro m
  induction m with
  | zero =>
    intro i t h hp hq hi D
    have : i = 61 := by omega
    subst this
    exact ⟨h, by rw [b_X_meets_28, if_pos (by decide)]; rfl, D.2.1⟩
  | succ m ih =>
    intro i t h hp hq hi D
    obtain ⟨h1, a1, a2, -⟩ := D.night (X := X) (-9)
    have e := (night_V D.2.2 (-9)).2
    rw [b_X_meets_28, if_neg (gt60 (by omega)), frsF_s, nI_add1, s_apt hH_8 D.1 D.2.2.1 hp hq, zbI_some]
    by_cases r : apt (tC t p) (tC t q) = 1
    · rw [if_pos r, if_pos (show metP p q t = true by unfold metP; simp [r])]
      exact ⟨h, rfl, D.2.1⟩
    · rw [if_neg r, if_neg (show ¬ metP p q t = true by unfold metP; simp [r]), a1, zbV_some]
      exact ih (i + 1) _ h1 (by omega) (by omega) (by omega) a2
theorem m_fstF (R0 : MP h0 w) (V : WV w) {p : Nat} {y f : Int32} : ∀ (m i : Nat) (t : zT) (h : zH) (g : Option Value), p < tn t → i + m = 61 → TH h0 t h → ∃ h', zrn X 6 m_M_first 45 [some (.ref 123), some (.int (nI p)), some (.int y), some (.int f), some (.int (-9)), some (.int (nI i)), g] [] h = some (some (.int (frsF (fstP p y) m i t)), h') ∧ MP h' w ∧ FM pMa h0 h' := by
  intro m
  induction m with
  | zero =>
    intro i t h g hp hi T
    have : i = 61 := by omega
    subst this
    obtain ⟨h1, a1, a2, a3⟩ := T.again (X := X) R0 V
    exact ⟨h1, by rw [b_M_first_45, if_pos (by decide), a1, zbV_some]; rfl, a2, a3⟩
  | succ m ih =>
    intro i t h g hp hi T
    obtain ⟨h1, a1, a2, -⟩ := T.night (X := X) (-9)
    have hn : p < tn (night t (-9)).1 := by rw [(night_V T.2.2 (-9)).2]; exact hp
    have stop : ∀ g : Option Value, ∃ h', zrn X 6 m_M_first 45 [some (.ref 123), some (.int (nI p)), some (.int y), some (.int f), some (.int (nI i)), some (.int (nI (i + 1))), g] [] h1 = some (some (.int (nI i)), h') ∧ MP h' w ∧ FM pMa h0 h' := by
      intro g
      obtain ⟨h2, c1, c2, c3⟩ := a2.again (X := X) R0 V
      refine ⟨h2, ?_, c2, c3⟩
      rw [b_M_first_45]
      by_cases z : (60 : Int32) < nI (i + 1)
      · rw [if_pos z, c1, zbV_some]
      · rw [if_neg z, if_pos (nI_pos' (by omega)), c1, zbV_some]
    rw [b_M_first_45, if_neg (gt60 (by omega)), if_neg (show ¬ (0 : Int32) ≤ -9 by decide), frsF_s, nI_add1]
    by_cases hy : y = 0
    · rw [if_pos hy, m_watchersOf T.1 T.2.2, zbI_some, a1, zbV_some, b01']
      have e : fstP p y t = decide (wat t (nI p) ≠ 0) := by unfold fstP; rw [if_pos hy]
      by_cases q : wat t (nI p) = 0
      · rw [if_pos q, if_neg (show ¬ fstP p y t = true by rw [e]; simp [q])]
        exact ih (i + 1) _ h1 _ hn (by omega) a2
      · rw [if_neg q, if_pos (show fstP p y t = true by rw [e]; simp [q])]
        exact stop _
    · rw [if_neg hy, m_lensOf T.1 T.2.2 hp, zbI_some, a1, zbV_some, b01']
      have e : fstP p y t = decide (lns t p ≠ -9) := by unfold fstP; rw [if_neg hy]
      by_cases q : lns t p = -9
      · rw [if_pos ((lns_neg T.2.2.1).mpr q), if_neg (show ¬ fstP p y t = true by rw [e]; simp [q])]
        exact ih (i + 1) _ h1 _ hn (by omega) a2
      · rw [if_neg (fun z => q ((lns_neg T.2.2.1).mp z)), if_pos (show fstP p y t = true by rw [e]; simp [q])]
        exact stop _
theorem m_metF (R0 : MP h0 w) (V : WV w) {p q : Nat} : ∀ (m i : Nat) (t : zT) (h : zH), p < tn t → q < tn t → i + m = 61 → TH h0 t h → ∃ h', zrn X 6 m_M_meets 30 [some (.ref 123), some (.int (nI p)), some (.int (nI q)), some (.int (-9)), some (.int (nI i))] [] h = some (some (.int (frsF (metP p q) m i t)), h') ∧ MP h' w ∧ FM pMa h0 h' := by
  intro m
  induction m with
  | zero =>
    intro i t h hp hq hi T
    have : i = 61 := by omega
    subst this
    obtain ⟨h1, a1, a2, a3⟩ := T.again (X := X) R0 V
    exact ⟨h1, by rw [b_M_meets_30, if_pos (by decide), a1, zbV_some]; rfl, a2, a3⟩
  | succ m ih =>
    intro i t h hp hq hi T
    have hn := T.2.2.1
    obtain ⟨h1, a1, a2, -⟩ := T.night (X := X) (-9)
    have e := (night_V T.2.2 (-9)).2
    rw [b_M_meets_30, if_neg (gt60 (by omega)), if_neg (show ¬ (0 : Int32) ≤ -9 by decide), frsF_s, nI_add1, if_pos (zin_nI (by omega) (by decide)), if_pos (zin_nI (by omega) (by decide)), nI_clamp (by omega), nI_clamp (by omega), (T.1.2 p hp).2.2.1, (T.1.2 q hq).2.2.1, m_apt, zbI_some, a1, zbV_some]
    by_cases r : apt (tC t p) (tC t q) = 1
    · rw [if_pos r, if_pos (show metP p q t = true by unfold metP; simp [r])]
      obtain ⟨h2, c1, c2, c3⟩ := a2.again (X := X) R0 V
      refine ⟨h2, ?_, c2, c3⟩
      rw [b_M_meets_30]
      by_cases z : (60 : Int32) < nI (i + 1)
      · rw [if_pos z, c1, zbV_some]
      · rw [if_neg z, if_pos (nI_pos' (by omega)), c1, zbV_some]
    · rw [if_neg r, if_neg (show ¬ metP p q t = true by unfold metP; simp [r])]
      exact ih (i + 1) _ h1 (by omega) (by omega) (by omega) a2
/-- two are told: both refuse alike -/
theorem OK2.a2 {x y : Int32} {A B : zH → Option (Option Value × zH)} (hX : XP h w) (hM : MP h w) (V : WV w) (ex : zcf X mx [.ref 1, .int x, .int y] h = (zbI (zcf X m_X_areTwo [.ref 1, .int x, .int y] h) fun v2 h1 => (if v2 = 0 then (zbI (zcf X m_X_refuse [.ref 1, .int (-1)] h1) fun v4 h3 => (some (some (.int v4), h3))) else A h1))) (em : ∀ h : zH, zcf X mm [.ref 123, .int x, .int y] h = (zbI (zcf X m_M_areTwo [.ref 123, .int x, .int y] ((zup h.1 123 7 0), h.2)) fun v2 h1 => (if v2 = 0 then (zbI (zcf X m_M_refuse [.ref 123, .int (-1)] h1) fun v4 h3 => (some (some (.int v4), h3))) else B h1))) (go : ∀ p q, p < tn (wt w) → q < tn (wt w) → p ≠ q → x = nI p → y = nI q → ∃ r, (∃ h1, A h = some (some (.int r), h1) ∧ FM pXq h h1) ∧ ∀ H : zH, MP H w → ∃ h2, B H = some (some (.int r), h2) ∧ MP h2 w ∧ FM pMa H h2) : OK2 X mx mm [.int x, .int y] h := by
  have h6 : tn (wt w) ≤ 6 := V.1.1.1
  by_cases q : rg x (tn (wt w)) ∧ rg y (tn (wt w)) ∧ x ≠ y
  · obtain ⟨i, hi, e1⟩ := q.1
    obtain ⟨j, hj, e2⟩ := q.2.1
    obtain ⟨r, ⟨h2, a1, a2⟩, b⟩ := go i j hi hj (fun z => q.2.2 (by rw [e1, e2, z])) e1 e2
    refine OK2.qy (r := r) hX hM V ⟨h2, ?_, a2⟩ fun h1' H i1 i2 R => ?_
    · rw [ex, s_areTwo hX V, zbI_some, if_pos q, if_neg (show ¬ (1 : Int32) = 0 by decide), a1]
    · obtain ⟨h3, b1, b2, b3⟩ := b H R
      refine ⟨h3, ?_, b2, b3⟩
      rw [em, i1, i2, m_areTwo (h := (H.1, H.2)) R.1.1 h6, zbI_some, if_pos q, if_neg (show ¬ (1 : Int32) = 0 by decide)]
      exact b1
  · refine OK2.no (x := -1) 1 hX hM V (by decide) (by decide) (by decide) ?_ fun h1' H i1 i2 R => ⟨H, ?_, R, FM.rf⟩
    · rw [ex, s_areTwo hX V, zbI_some, if_neg q, if_pos (show (0 : Int32) = 0 from rfl), zrx1]
    · rw [em, i1, i2, m_areTwo (h := (H.1, H.2)) R.1.1 h6, zbI_some, if_neg q, if_pos (show (0 : Int32) = 0 from rfl), zrm1]
theorem ok_first (hX : XP h w) (hM : MP h w) (V : WV w) {x y : Int32} : OK2 X m_X_first m_M_first [.int x, .int y] h := by
  refine OK2.wh (last := 1) (A := fun X x y v h1 => (zbV (zcf X m_H_become [.ref 8, .ref 2] h1) fun h3 => zrn X 5 m_X_first 32 [some (.ref 1), some (.int x), some (.int y), some (.int v), some (.int 0), none] [] h3)) (B := fun X x y v h4 => (zbV (zcf X m_M_think [.ref 123] h4) fun h6 => zrn X 6 m_M_first 45 [some (.ref 123), some (.int x), some (.int y), some (.int v), some (.int (-9)), some (.int 0), none] [] h6)) (by decide) hX hM V e_X_first (fun _ => e_M_first) fun p hp hx hy => ⟨frsF (fstP p y) 61 0 (wt w), ?_, fun H R => ?_⟩
  · obtain ⟨h1, a1, a2⟩ := s_mind (X := X) hX V
    rw [hx, a1, zbV_some]
    exact s_fstF 61 0 _ h1 none hp rfl a2
  · obtain ⟨h1, a1, a2⟩ := TH.think (X := X) R V
    rw [hx, a1, zbV_some]
    exact m_fstF R V 61 0 _ h1 none hp rfl a2
theorem ok_meets (hX : XP h w) (hM : MP h w) (V : WV w) {x y : Int32} : OK2 X m_X_meets m_M_meets [.int x, .int y] h := by
  refine OK2.a2 (A := fun h1 => (zbV (zcf X m_H_become [.ref 8, .ref 2] h1) fun h5 => zrn X 5 m_X_meets 28 [some (.ref 1), some (.int x), some (.int y), some (.int 0)] [] h5)) (B := fun h1 => (zbV (zcf X m_M_think [.ref 123] h1) fun h5 => zrn X 6 m_M_meets 30 [some (.ref 123), some (.int x), some (.int y), some (.int (-9)), some (.int 0)] [] h5)) hX hM V e_X_meets (fun _ => e_M_meets) fun p q hp hq hne e1 e2 => ⟨frsF (metP p q) 61 0 (wt w), ?_, fun H R => ?_⟩
  · obtain ⟨h1, a1, a2⟩ := s_mind (X := X) hX V
    rw [e1, e2, a1, zbV_some]
    exact s_metF 61 0 _ h1 hp hq rfl a2
  · obtain ⟨h1, a1, a2⟩ := TH.think (X := X) R V
    rw [e1, e2, a1, zbV_some]
    exact m_metF R V 61 0 _ h1 hp hq rfl a2
end z41
