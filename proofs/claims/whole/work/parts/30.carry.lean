/-! the model's rows of numbers: taken, and put back -/
section zcar
variable {X : zX} {h : zH} {q c : Nat} {v : Int32}
theorem m_carry1 (hq : 128 < q) (A : zcl 140 (q + 1) = (0, 37)) (hK : h.2 = q + 1) (hc : c < 37) (h22 : h.1 123 22 = nI c) (h23 : h.1 123 23 = 1) : zcf X m_M_carry [.ref 123, .int v] h = some (some (.int v), (zup (zup h.1 (q + 1) c v) 123 22 (nI (c + 1)), h.2)) := by
  rw [e_M_carry hK A, if_neg (by rw [h23]; decide), h22, if_pos (zin_nI hc (by decide)), nI_clamp (by omega), zup_nc (show 123 ≠ q + 1 by omega), h22, nI_add1, zup_eq, nI_pred, if_pos (zin_nI hc (by decide)), nI_clamp (by omega), zup_nc (show q + 1 ≠ 123 by omega), zup_eq]
theorem m_carry0 (hq : 128 < q) (A : zcl 140 (q + 1) = (0, 37)) (hK : h.2 = q + 1) (hc : c < 37) (h22 : h.1 123 22 = nI c) (h23 : h.1 123 23 = 0) : zcf X m_M_carry [.ref 123, .int v] h = some (some (.int (h.1 (q + 1) c)), (zup h.1 123 22 (nI (c + 1)), h.2)) := by
  rw [e_M_carry hK A, if_pos h23, h22, nI_add1, zup_eq, nI_pred, if_pos (zin_nI hc (by decide)), nI_clamp (by omega), zup_nc (show q + 1 ≠ 123 by omega)]
/-- a number of the row: its place in the fields -/
def lay (I : Nat → Nat → Int32) (c : Nat) : Int32 := if c = 0 then I 123 0 else (if c = 1 then I 123 6 else I (124 + (c - 2) % 5) ((c - 2) / 5))
theorem lay_0 {I : Nat → Nat → Int32} : lay I 0 = I 123 0 := rfl
theorem lay_1 {I : Nat → Nat → Int32} : lay I 1 = I 123 6 := rfl
theorem lay_p {I : Nat → Nat → Int32} {p i : Nat} (hi : i < 5) : lay I (2 + 5 * p + i) = I (124 + i) p := by
  unfold lay
  rw [if_neg (by omega), if_neg (by omega)]
  have e1 : (2 + 5 * p + i - 2) % 5 = i := by omega
  have e2 : (2 + 5 * p + i - 2) / 5 = p := by omega
  rw [e1, e2]
/-- taken up to a place -/
def TK (h0 : zH) (q c : Nat) (h : zH) : Prop := h.1 123 22 = nI c ∧ h.1 123 23 = 1 ∧ h.2 = q + 1 ∧ (∀ j, j < c → h.1 (q + 1) j = lay h0.1 j) ∧ ∀ b j, b ≠ q + 1 → ¬ (b = 123 ∧ (j = 22 ∨ j = 23)) → h.1 b j = h0.1 b j
theorem TK.same {h0 : zH} {b j : Nat} (T : TK h0 q c h) (hb : b ≠ q + 1) (hj : ¬ (b = 123 ∧ (j = 22 ∨ j = 23))) (hv : v = h0.1 b j) : TK h0 q c (zup h.1 b j v, h.2) := by
  have e : zup h.1 b j v = h.1 := by
    funext b' j'
    unfold zup
    by_cases hz : b' = b ∧ j' = j
    · rw [if_pos hz, hz.1, hz.2, hv]; exact (T.2.2.2.2 b j hb hj).symm
    · rw [if_neg hz]
  rw [e]
  exact T
theorem m_take1 {h0 : zH} (hq : 128 < q) (A : zcl 140 (q + 1) = (0, 37)) (T : TK h0 q c h) (hc : c < 37) (hv : v = lay h0.1 c) : ∃ h1, zcf X m_M_carry [.ref 123, .int v] h = some (some (.int v), h1) ∧ TK h0 q (c + 1) h1 := by
  obtain ⟨t1, t2, t3, t4, t5⟩ := T
  refine ⟨_, m_carry1 hq A t3 hc t1 t2, by dsimp only; rw [zup_eq], ?_, t3, fun j hj => ?_, fun b j hb hj => ?_⟩
  · dsimp only; rw [zup_ns (by decide), zup_nc (by omega)]; exact t2
  · dsimp only
    rw [zup_nc (by omega)]
    by_cases hjc : j = c
    · rw [hjc, zup_eq, hv]
    · rw [zup_ns hjc]; exact t4 j (by omega)
  · dsimp only
    have : zup (zup h.1 (q + 1) c v) 123 22 (nI (c + 1)) b j = zup h.1 (q + 1) c v b j := by
      unfold zup
      rw [if_neg (fun z => hj ⟨z.1, Or.inl z.2⟩)]
    rw [this, zup_nc hb]
    exact t5 b j hb hj
/-- put back up to a place -/
def RS (h0 : zH) (q c : Nat) (h : zH) : Prop := h.1 123 22 = nI c ∧ h.1 123 23 = 0 ∧ h.2 = q + 1 ∧ (∀ j, j < c → lay h.1 j = h0.1 (q + 1) j) ∧ ∀ b j, ¬ (124 ≤ b ∧ b ≤ 128) → ¬ (b = 123 ∧ (j = 0 ∨ j = 6 ∨ j = 22 ∨ j = 23)) → h.1 b j = h0.1 b j
theorem m_take0 {h0 : zH} (hq : 128 < q) (A : zcl 140 (q + 1) = (0, 37)) (T : RS h0 q c h) (hc : c < 37) : zcf X m_M_carry [.ref 123, .int v] h = some (some (.int (h0.1 (q + 1) c)), (zup h.1 123 22 (nI (c + 1)), h.2)) := by
  obtain ⟨t1, t2, t3, t4, t5⟩ := T
  rw [m_carry0 hq A t3 hc t1 t2, t5 (q + 1) c (by omega) (by omega)]
theorem lay_zup {I : Nat → Nat → Int32} {p i c j : Nat} (hi : i < 5) (hc : c = 2 + 5 * p + i) (hj : j < c) : lay (zup I (124 + i) p v) j = lay I j := by
  unfold lay
  by_cases h0 : j = 0
  · rw [if_pos h0, if_pos h0, zup_nc (by omega)]
  · rw [if_neg h0, if_neg h0]
    by_cases h1 : j = 1
    · rw [if_pos h1, if_pos h1, zup_nc (by omega)]
    · rw [if_neg h1, if_neg h1]
      unfold zup
      rw [if_neg (by omega)]
theorem lay_22 {I : Nat → Nat → Int32} {j : Nat} : lay (zup I 123 22 v) j = lay I j := by
  unfold lay
  by_cases h0 : j = 0
  · rw [if_pos h0, if_pos h0, zup_ns (by decide)]
  · rw [if_neg h0, if_neg h0]
    by_cases h1 : j = 1
    · rw [if_pos h1, if_pos h1, zup_ns (by decide)]
    · rw [if_neg h1, if_neg h1, zup_nc (by omega)]
theorem RS.put {h0 : zH} {p i : Nat} (T : RS h0 q c h) (hq : 128 < q) (hi : i < 5) (hc : c = 2 + 5 * p + i) (hv : v = h0.1 (q + 1) c) : RS h0 q (c + 1) (zup (zup h.1 123 22 (nI (c + 1))) (124 + i) p v, h.2) := by
  obtain ⟨t1, t2, t3, t4, t5⟩ := T
  refine ⟨?_, ?_, t3, fun j hj => ?_, fun b j hb hj => ?_⟩
  · dsimp only; rw [zup_nc (by omega), zup_eq]
  · dsimp only; rw [zup_nc (by omega), zup_ns (by decide)]; exact t2
  · dsimp only
    by_cases hjc : j = c
    · rw [hjc, hc, lay_p hi, zup_eq, hv, hc]
    · rw [lay_zup hi hc (by omega), lay_22]; exact t4 j (by omega)
  · dsimp only
    rw [zup_nc (by omega)]
    have : zup h.1 123 22 (nI (c + 1)) b j = h.1 b j := by
      unfold zup
      rw [if_neg (fun z => hj ⟨z.1, Or.inr (Or.inr (Or.inl z.2))⟩)]
    rw [this]
    exact t5 b j hb hj
set_option maxHeartbeats 1000000 in
theorem m_takeF {h0 : zH} (hq : 128 < q) (A : zcl 140 (q + 1) = (0, 37)) : ∀ (m p : Nat) (h : zH), p + m = 7 → TK h0 q (2 + 5 * p) h → ∃ h1, zrn X 1 m_M_carryAll 41 [some (.ref 123), some (.ref (q + 1)), some (.int 1), some (.int (nI p))] [] h = some (none, h1) ∧ TK h0 q 37 h1 := by
  intro m
  induction m with
  | zero =>
    intro p h hp T
    have : p = 7 := by omega
    subst this
    rw [b_M_carryAll_41 A (Or.inr rfl), if_pos (by decide)]
    exact ⟨h, rfl, T⟩
  | succ m ih =>
    intro p h hp T
    have h7 : ¬ (7 : Int32) ≤ nI p := nI_ge (b := 7) (by omega) (by decide)
    have hz : zin (nI p) 7 = true := zin_nI (by omega) (by decide)
    have hcl : (nI p).toNatClampNeg = p := nI_clamp (by omega)
    rw [b_M_carryAll_41 A (Or.inr rfl), if_neg h7]
    simp only [hz, if_true, hcl]
    have step : ∀ (i : Nat) (h : zH), i < 5 → TK h0 q (2 + 5 * p + i) h → ∃ h1, zcf X m_M_carry [.ref 123, .int (h.1 (124 + i) p)] h = some (some (.int (h0.1 (124 + i) p)), h1) ∧ TK h0 q (2 + 5 * p + i + 1) (zup h1.1 (124 + i) p (h0.1 (124 + i) p), h1.2) := fun i h hi T => by
      have e : h.1 (124 + i) p = h0.1 (124 + i) p := T.2.2.2.2 _ _ (by omega) (by omega)
      rw [e]
      obtain ⟨h1, w1, w2⟩ := m_take1 (X := X) hq A T (by omega) (v := h0.1 (124 + i) p) (by rw [lay_p hi])
      exact ⟨h1, w1, w2.same (by omega) (by omega) rfl⟩
    obtain ⟨h1, w1, T1⟩ := step 0 h (by decide) T
    rw [w1, zbI_some]
    obtain ⟨h2, w2, T2⟩ := step 1 _ (by decide) T1
    dsimp only at w2
    rw [w2, zbI_some]
    obtain ⟨h3, w3, T3⟩ := step 2 _ (by decide) T2
    dsimp only at w3
    rw [w3, zbI_some]
    obtain ⟨h4, w4, T4⟩ := step 3 _ (by decide) T3
    dsimp only at w4
    rw [w4, zbI_some]
    obtain ⟨h5, w5, T5⟩ := step 4 _ (by decide) T4
    dsimp only at w5
    rw [w5, zbI_some, nI_add1]
    exact ih (p + 1) _ (by omega) T5
theorem m_takeAll (hq : 128 < q) (A : zcl 140 (q + 1) = (0, 37)) : ∃ h1, zcf X m_M_carryAll [.ref 123, .ref (q + 1), .int 1] h = some (none, h1) ∧ TK h q 37 h1 := by
  rw [e_M_carryAll A (Or.inr rfl)]
  have T0 : TK h q 0 (zup (zup h.1 123 23 1) 123 22 0, q + 1) := ⟨by dsimp only; rw [zup_eq]; exact nI_0.symm, by dsimp only; rw [zup_ns (by decide), zup_eq], rfl, fun j hj => absurd hj (Nat.not_lt_zero _), fun b j hb hj => by
    dsimp only
    unfold zup
    rw [if_neg (fun z => hj ⟨z.1, Or.inl z.2⟩), if_neg (fun z => hj ⟨z.1, Or.inr z.2⟩)]⟩
  have e0 : (zup (zup h.1 123 23 1) 123 22 0) 123 0 = h.1 123 0 := by rw [zup_ns (by decide), zup_ns (by decide)]
  rw [e0]
  obtain ⟨h1, w1, T1⟩ := m_take1 (X := X) hq A T0 (by decide) (v := h.1 123 0) rfl
  rw [w1, zbI_some]
  have T1 := T1.same (b := 123) (j := 0) (v := h.1 123 0) (by omega) (by decide) rfl
  have e1 : (zup h1.1 123 0 (h.1 123 0)) 123 6 = h.1 123 6 := T1.2.2.2.2 123 6 (by omega) (by decide)
  rw [e1]
  obtain ⟨h2, w2, T2⟩ := m_take1 (X := X) hq A T1 (by decide) (v := h.1 123 6) rfl
  rw [w2, zbI_some]
  exact m_takeF hq A 7 0 _ (by decide) (T2.same (b := 123) (j := 6) (v := h.1 123 6) (by omega) (by decide) rfl)
set_option maxHeartbeats 1000000 in
theorem m_putF {h0 : zH} (hq : 128 < q) (A : zcl 140 (q + 1) = (0, 37)) : ∀ (m p : Nat) (h : zH), p + m = 7 → RS h0 q (2 + 5 * p) h → ∃ h1, zrn X 1 m_M_carryAll 41 [some (.ref 123), some (.ref (q + 1)), some (.int 0), some (.int (nI p))] [] h = some (none, h1) ∧ RS h0 q 37 h1 := by
  intro m
  induction m with
  | zero =>
    intro p h hp T
    have : p = 7 := by omega
    subst this
    rw [b_M_carryAll_41 A (Or.inl rfl), if_pos (by decide)]
    exact ⟨h, rfl, T⟩
  | succ m ih =>
    intro p h hp T
    have h7 : ¬ (7 : Int32) ≤ nI p := nI_ge (b := 7) (by omega) (by decide)
    have hz : zin (nI p) 7 = true := zin_nI (by omega) (by decide)
    have hcl : (nI p).toNatClampNeg = p := nI_clamp (by omega)
    rw [b_M_carryAll_41 A (Or.inl rfl), if_neg h7]
    simp only [hz, if_true, hcl]
    rw [m_take0 hq A T (by omega), zbI_some]
    have T1 := T.put hq (p := p) (i := 0) (by decide) (by omega) rfl
    rw [m_take0 hq A T1 (by omega), zbI_some]
    have T2 := T1.put hq (p := p) (i := 1) (by decide) (by omega) rfl
    rw [m_take0 hq A T2 (by omega), zbI_some]
    have T3 := T2.put hq (p := p) (i := 2) (by decide) (by omega) rfl
    rw [m_take0 hq A T3 (by omega), zbI_some]
    have T4 := T3.put hq (p := p) (i := 3) (by decide) (by omega) rfl
    rw [m_take0 hq A T4 (by omega), zbI_some, nI_add1]
    have T5 := T4.put hq (p := p) (i := 4) (by decide) (by omega) rfl
    exact ih (p + 1) _ (by omega) T5
theorem m_putAll (hq : 128 < q) (A : zcl 140 (q + 1) = (0, 37)) : ∃ h1, zcf X m_M_carryAll [.ref 123, .ref (q + 1), .int 0] h = some (none, h1) ∧ RS h q 37 h1 := by
  rw [e_M_carryAll A (Or.inl rfl)]
  have T0 : RS h q 0 (zup (zup h.1 123 23 0) 123 22 0, q + 1) := ⟨by dsimp only; rw [zup_eq]; exact nI_0.symm, by dsimp only; rw [zup_ns (by decide), zup_eq], rfl, fun j hj => absurd hj (Nat.not_lt_zero _), fun b j hb hj => by
    dsimp only
    unfold zup
    rw [if_neg (fun z => hj ⟨z.1, Or.inr (Or.inr (Or.inl z.2))⟩), if_neg (fun z => hj ⟨z.1, Or.inr (Or.inr (Or.inr z.2))⟩)]⟩
  rw [m_take0 hq A T0 (by decide), zbI_some]
  have T1 : RS h q 1 (zup (zup (zup (zup h.1 123 23 0) 123 22 0) 123 22 (nI (0 + 1))) 123 0 (h.1 (q + 1) 0), q + 1) := by
    obtain ⟨t1, t2, t3, t4, t5⟩ := T0
    refine ⟨by dsimp only; rw [zup_ns (by decide), zup_eq], by dsimp only; rw [zup_ns (by decide), zup_ns (by decide)]; exact t2, rfl, fun j hj => ?_, fun b j hb hj => ?_⟩
    · have : j = 0 := by omega
      subst this
      dsimp only
      rw [lay_0, zup_eq]
    · have e1 := t5 b j hb hj
      dsimp only at e1 ⊢
      unfold zup at e1 ⊢
      rw [if_neg (fun z => hj ⟨z.1, Or.inl z.2⟩), if_neg (fun z => hj ⟨z.1, Or.inr (Or.inr (Or.inl z.2))⟩)]
      exact e1
  dsimp only
  rw [m_take0 hq A T1 (by decide), zbI_some]
  have T2 : RS h q 2 (zup (zup (zup (zup (zup (zup h.1 123 23 0) 123 22 0) 123 22 (nI (0 + 1))) 123 0 (h.1 (q + 1) 0)) 123 22 (nI (1 + 1))) 123 6 (h.1 (q + 1) 1), q + 1) := by
    obtain ⟨t1, t2, t3, t4, t5⟩ := T1
    refine ⟨by dsimp only; rw [zup_ns (by decide), zup_eq], by dsimp only; rw [zup_ns (by decide), zup_ns (by decide)]; exact t2, rfl, fun j hj => ?_, fun b j hb hj => ?_⟩
    · dsimp only
      rcases (show j = 0 ∨ j = 1 by omega) with z | z
      · subst z
        have := t4 0 (by decide)
        dsimp only at this
        rw [lay_0] at this ⊢
        rw [zup_ns (by decide), zup_ns (by decide)]
        exact this
      · subst z
        rw [lay_1, zup_eq]
    · have e1 := t5 b j hb hj
      dsimp only at e1 ⊢
      rw [← e1]
      generalize zup (zup (zup (zup h.1 123 23 0) 123 22 0) 123 22 (nI (0 + 1))) 123 0 (h.1 (q + 1) 0) = J
      unfold zup
      rw [if_neg (fun z => hj ⟨z.1, Or.inr (Or.inl z.2)⟩), if_neg (fun z => hj ⟨z.1, Or.inr (Or.inr (Or.inl z.2))⟩)]
  exact m_putF hq A 7 0 _ (by decide) T2
end zcar
