/-! first, meets -/
/-- the first night of so many on which it is so -/
def frsF (P : zT → Bool) : Nat → Nat → zT → Int32
  | 0, _, _ => -9
  | m + 1, i, t => if P t = true then nI i else frsF P m (i + 1) (night t (-9)).1
theorem frsF_s {P : zT → Bool} {m i : Nat} {t : zT} : frsF P (m + 1) i t = if P t = true then nI i else frsF P m (i + 1) (night t (-9)).1 := rfl
def fstP (p : Nat) (y : Int32) (t : zT) : Bool := if y = 0 then decide (wat t (nI p) ≠ 0) else decide (lns t p ≠ -9)
def metP (p q : Nat) (t : zT) : Bool := decide (apt (tC t p) (tC t q) = 1)
theorem gt60 {i : Nat} (h : i < 61) : ¬ (60 : Int32) < nI i := nI_nlt (a := 60) (b := i) (by omega) (by omega)
theorem b01' {c : Prop} [Decidable c] {α : Type} {a b : α} : (if (if c then (0 : Int32) else 1) = 0 then a else b) = if c then a else b := by
  by_cases q : c
  · rw [if_pos q, if_pos q, if_pos rfl]
  · rw [if_neg q, if_neg q, if_neg (by decide)]
section z41
variable {X : zX} {h h0 : zH} {w : zW} {mx mm : zM} {as : List Value} {t : zT}
theorem s_fstF {p : Nat} {y f : Int32} : ∀ (m i : Nat) (t : zT) (h : zH) (g : Option Value), p < tn t → i + m = 61 → MD h0 t h → ∃ h', zrn X 5 m_X_first 32 [some (.ref 1), some (.int (nI p)), some (.int y), some (.int f), some (.int (nI i)), g] [] h = some (some (.int (frsF (fstP p y) m i t)), h') ∧ FM pXq h0 h' := by
  intro m
  induction m with
  | zero =>
    intro i t h g hp hi D
    have : i = 61 := by omega
    subst this
    exact ⟨h, by rw [b_X_first_32, if_pos (by decide)]; rfl, D.2.1⟩
  | succ m ih =>
    intro i t h g hp hi D
    obtain ⟨h1, a1, a2, -⟩ := D.night (X := X) (-9)
    have hn : p < tn (night t (-9)).1 := by rw [(night_V D.2.2 (-9)).2]; exact hp
    rw [b_X_first_32, if_neg (gt60 (by omega)), frsF_s, nI_add1]
    by_cases hy : y = 0
    · rw [if_pos hy, s_watchers hH_8 D.1 D.2.2, zbI_some, b01']
      have e : fstP p y t = decide (wat t (nI p) ≠ 0) := by unfold fstP; rw [if_pos hy]
      by_cases q : wat t (nI p) = 0
      · rw [if_pos q, if_neg (show ¬ fstP p y t = true by rw [e]; simp [q]), a1, zbV_some]
        exact ih (i + 1) _ h1 _ hn (by omega) a2
      · rw [if_neg q, if_pos (show fstP p y t = true by rw [e]; simp [q])]
        exact ⟨h, rfl, D.2.1⟩
    · rw [if_neg hy, s_inLens hH_8 D.1 D.2.2 hp, zbI_some, b01']
      have e : fstP p y t = decide (lns t p ≠ -9) := by unfold fstP; rw [if_neg hy]
      by_cases q : lns t p = -9
      · rw [if_pos q, if_neg (show ¬ fstP p y t = true by rw [e]; simp [q]), a1, zbV_some]
        exact ih (i + 1) _ h1 _ hn (by omega) a2
      · rw [if_neg q, if_pos (show fstP p y t = true by rw [e]; simp [q])]
        exact ⟨h, rfl, D.2.1⟩
theorem s_metF {p q : Nat} : ∀ (m i : Nat) (t : zT) (h : zH), p < tn t → q < tn t → i + m = 61 → MD h0 t h → ∃ h', zrn X 5 m_X_meets 28 [some (.ref 1), some (.int (nI p)), some (.int (nI q)), some (.int (nI i))] [] h = some (some (.int (frsF (metP p q) m i t)), h') ∧ FM pXq h0 h' := by
  intro m
  induction m with
  | zero =>
    intro i t h hp hq hi D
    have : i = 61 := by omega
    subst this
    exact ⟨h, by rw [b_X_meets_28, if_pos (by decide)]; rfl, D.2.1⟩
  | succ m ih =>
    intro i t h hp hq hi D
    obtain ⟨h1, a1, a2, -⟩ := D.night (X := X) (-9)
    have e := (night_V D.2.2 (-9)).2
    rw [b_X_meets_28, if_neg (gt60 (by omega)), frsF_s, nI_add1, s_apt hH_8 D.1 D.2.2.1 hp hq, zbI_some]
    by_cases r : apt (tC t p) (tC t q) = 1
    · rw [if_pos r, if_pos (show metP p q t = true by unfold metP; simp [r])]
      exact ⟨h, rfl, D.2.1⟩
    · rw [if_neg r, if_neg (show ¬ metP p q t = true by unfold metP; simp [r]), a1, zbV_some]
      exact ih (i + 1) _ h1 (by omega) (by omega) (by omega) a2
theorem m_fstF (R0 : MP h0 w) (V : WV w) {p : Nat} {y f : Int32} : ∀ (m i : Nat) (t : zT) (h : zH) (g : Option Value), p < tn t → i + m = 61 → TH h0 t h → ∃ h', zrn X 6 m_M_first 45 [some (.ref 123), some (.int (nI p)), some (.int y), some (.int f), some (.int (-9)), some (.int (nI i)), g] [] h = some (some (.int (frsF (fstP p y) m i t)), h') ∧ MP h' w ∧ FM pMa h0 h' := by
  intro m
  induction m with
  | zero =>
    intro i t h g hp hi T
    have : i = 61 := by omega
    subst this
    obtain ⟨h1, a1, a2, a3⟩ := T.again (X := X) R0 V
    exact ⟨h1, by rw [b_M_first_45, if_pos (by decide), a1, zbV_some]; rfl, a2, a3⟩
  | succ m ih =>
    intro i t h g hp hi T
    obtain ⟨h1, a1, a2, -⟩ := T.night (X := X) (-9)
    have hn : p < tn (night t (-9)).1 := by rw [(night_V T.2.2 (-9)).2]; exact hp
    have stop : ∀ g : Option Value, ∃ h', zrn X 6 m_M_first 45 [some (.ref 123), some (.int (nI p)), some (.int y), some (.int f), some (.int (nI i)), some (.int (nI (i + 1))), g] [] h1 = some (some (.int (nI i)), h') ∧ MP h' w ∧ FM pMa h0 h' := by
      intro g
      obtain ⟨h2, c1, c2, c3⟩ := a2.again (X := X) R0 V
      refine ⟨h2, ?_, c2, c3⟩
      rw [b_M_first_45]
      by_cases z : (60 : Int32) < nI (i + 1)
      · rw [if_pos z, c1, zbV_some]
      · rw [if_neg z, if_pos (nI_pos' (by omega)), c1, zbV_some]
    rw [b_M_first_45, if_neg (gt60 (by omega)), if_neg (show ¬ (0 : Int32) ≤ -9 by decide), frsF_s, nI_add1]
    by_cases hy : y = 0
    · rw [if_pos hy, m_watchersOf T.1 T.2.2, zbI_some, a1, zbV_some, b01']
      have e : fstP p y t = decide (wat t (nI p) ≠ 0) := by unfold fstP; rw [if_pos hy]
      by_cases q : wat t (nI p) = 0
      · rw [if_pos q, if_neg (show ¬ fstP p y t = true by rw [e]; simp [q])]
        exact ih (i + 1) _ h1 _ hn (by omega) a2
      · rw [if_neg q, if_pos (show fstP p y t = true by rw [e]; simp [q])]
        exact stop _
    · rw [if_neg hy, m_lensOf T.1 T.2.2 hp, zbI_some, a1, zbV_some, b01']
      have e : fstP p y t = decide (lns t p ≠ -9) := by unfold fstP; rw [if_neg hy]
      by_cases q : lns t p = -9
      · rw [if_pos ((lns_neg T.2.2.1).mpr q), if_neg (show ¬ fstP p y t = true by rw [e]; simp [q])]
        exact ih (i + 1) _ h1 _ hn (by omega) a2
      · rw [if_neg (fun z => q ((lns_neg T.2.2.1).mp z)), if_pos (show fstP p y t = true by rw [e]; simp [q])]
        exact stop _
end z41
