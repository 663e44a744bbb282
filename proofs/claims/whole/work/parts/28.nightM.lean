def FS (P : Nat → Nat → Prop) (h h' : zH) : Prop := h'.2 = h.2 ∧ ∀ b j, ¬ P b j → h'.1 b j = h.1 b j
theorem FS.rf {P : Nat → Nat → Prop} {h : zH} : FS P h h := ⟨rfl, fun _ _ _ => rfl⟩
theorem FS.tr {P : Nat → Nat → Prop} {h h1 h2 : zH} (x : FS P h h1) (y : FS P h1 h2) : FS P h h2 := ⟨y.1.trans x.1, fun b j hb => (y.2 b j hb).trans (x.2 b j hb)⟩
theorem FS.up {P : Nat → Nat → Prop} {h : zH} {a j : Nat} {v : Int32} (hp : P a j) : FS P h (zup h.1 a j v, h.2) := ⟨rfl, fun b i hb => by
  show zup h.1 a j v b i = _
  unfold zup
  rw [if_neg (fun q => hb (by rw [q.1, q.2]; exact hp))]⟩
theorem FS.mono {P P' : Nat → Nat → Prop} {h h1 : zH} (x : FS P h h1) (hp : ∀ b j, P b j → P' b j) : FS P' h h1 := ⟨x.1, fun b j hb => x.2 b j (fun q => hb (hp b j q))⟩
/-- what a night of the model writes -/
def pN (b j : Nat) : Prop := (126 ≤ b ∧ b ≤ 128) ∨ (b = 123 ∧ (j = 6 ∨ j = 9 ∨ j = 10))
theorem rg_pos {x : Int32} {m : Nat} (h : rg x m) (hm : m < 2 ^ 31) : 0 ≤ x := by
  obtain ⟨j, hj, rfl⟩ := h
  exact nI_pos' (by omega)
theorem str1 {c w : Int32} (hc : rg c 36) (hw : rg w 4) : str c w 1 = if bes c w = -1 then -9 else bes c w := by
  obtain ⟨j, hj, rfl⟩ := hc
  obtain ⟨i, hi, rfl⟩ := hw
  have h0 : ¬ nI j = -1 := by
    intro q
    have := nI_pos (n := j) (by omega)
    rw [q] at this
    exact this (by decide)
  have := str_bes j hj i hi 0 (by decide)
  have e : besN (nI i) (0 + 1) (nI j) = bes (nI j) (nI i) := by
    show (if nI j = -1 then -1 else bes (nI j) (nI i)) = _
    rw [if_neg h0]
  rw [e] at this
  exact this
theorem who_pos {n : Nat} (hn : n < 2 ^ 31) {C : zA} {c : Int32} : 0 ≤ who n C c ↔ ¬ who n C c = -9 := by
  rcases whoF_rg C c n 0 with q | ⟨q, h1, h2, h3, h4⟩
  · unfold who; rw [q]; decide
  · unfold who
    rw [h3]
    have h5 := nI_pos' (n := q) (by omega)
    refine ⟨fun _ z => ?_, fun _ => h5⟩
    rw [z] at h5
    exact absurd h5 (by decide)
section znm
variable {X : zX} {h : zH} {t : zT}
theorem m_stepTo (R : MR h t) (V : tV t) {p : Nat} (hp : p < tn t) {w : Int32} (hw : rg w 4) : ∃ h', zcf X m_M_stepTo [.ref 123, .int (nI p), .int w] h = some (none, h') ∧ MR h' (stp t p (bes (tC t p) w)).1 ∧ h'.1 123 9 = (if (stp t p (bes (tC t p) w)).2.2 = true then h.1 123 9 ||| bt p else h.1 123 9) ∧ h'.1 123 10 = h.1 123 10 ∧ h'.1 123 6 = h.1 123 6 ∧ FS pN h h' := by
  have hn := V.1
  have hc := (V.2 p hp).2.2.1
  have hz : zin (nI p) 7 = true := zin_nI (by omega) (by decide)
  rw [e_M_stepTo, if_pos hz, nI_clamp (by omega), (R.2 p hp).2.2.1, m_straight, zbI_some, str1 hc hw]
  unfold stp
  by_cases h1 : bes (tC t p) w = -1
  · rw [if_pos h1, if_pos (by decide), if_pos h1]
    exact ⟨h, rfl, R, rfl, rfl, rfl, FS.rf⟩
  · have hb : rg (bes (tC t p) w) 36 := by
      obtain ⟨j, hj, e1⟩ := hc
      obtain ⟨i, hi, e2⟩ := hw
      rw [e1, e2] at h1 ⊢
      rcases bes_rg j hj i hi with q | q
      · exact absurd q h1
      · exact q
    have hpos : ¬ bes (tC t p) w < 0 := by
      obtain ⟨j, hj, e1⟩ := hb
      rw [e1]
      exact nI_pos (by omega)
    rw [if_neg h1, if_neg hpos, if_neg h1, m_oneIn R hn, zbI_some]
    by_cases h2 : who (tn t) (tC t) (bes (tC t p) w) = -9
    · rw [if_neg (fun q => (who_pos (by omega)).mp q h2), if_pos hz, if_pos h2]
      refine ⟨_, rfl, ?_, ?_, ?_, ?_, ?_⟩
      · exact MR.fld (h := (zup h.1 126 p (bes (tC t p) w), h.2)) R.uC (by decide)
      · dsimp only
        rw [zup_eq, zup_nc (by decide)]
        rfl
      · dsimp only
        rw [zup_ns (by decide), zup_nc (by decide)]
      · dsimp only
        rw [zup_ns (by decide), zup_nc (by decide)]
      · exact FS.tr (FS.up (Or.inl ⟨by decide, by decide⟩)) (FS.up (h := (zup h.1 126 p (bes (tC t p) w), h.2)) (Or.inr ⟨rfl, Or.inr (Or.inl rfl)⟩))
    · rw [if_pos ((who_pos (by omega)).mpr h2), if_neg h2]
      exact ⟨h, rfl, R, rfl, rfl, rfl, FS.rf⟩
theorem zua_self {A : zA} {p : Nat} : zua A p (A p) = A := by
  funext q
  unfold zua
  by_cases h : q = p
  · rw [if_pos h, h]
  · rw [if_neg h]
theorem wD_self {p : Nat} : wD t p (tD t p) = t := by
  unfold wD
  rw [show zua t.2.2.2.2.1 p (tD t p) = t.2.2.2.2.1 from zua_self]
theorem m_goesBy (R : MR h t) (V : tV t) {p q : Nat} (hp : p < tn t) (hq : q < tn t) : ∃ h', zcf X m_M_goesBy [.ref 123, .int (nI p), .int (nI q)] h = some (none, h') ∧ MR h' (act t p (nI q)).1 ∧ h'.1 123 9 = (if (act t p (nI q)).2.2 = true then h.1 123 9 ||| bt p else h.1 123 9) ∧ h'.1 123 10 = h.1 123 10 ∧ h'.1 123 6 = h.1 123 6 ∧ FS pN h h' := by
  have hn := V.1
  obtain ⟨r1, r2, r3, r4, r5⟩ := V.2 p hp
  have hz : zin (nI p) 7 = true := zin_nI (by omega) (by decide)
  have t2 : rg (trn (tD t p) 2) 4 := rg_trn (q := 2) r4 (by decide)
  have dD : ∀ v : Int32, ∃ h', some ((none : Option Value), ((zup h.1 127 p v, h.2) : zH)) = some (none, h') ∧ MR h' (wD t p v) ∧ h'.1 123 9 = h.1 123 9 ∧ h'.1 123 10 = h.1 123 10 ∧ h'.1 123 6 = h.1 123 6 ∧ FS pN h h' := fun v => ⟨_, rfl, R.uD, by dsimp only; rw [zup_nc (by decide)], by dsimp only; rw [zup_nc (by decide)], by dsimp only; rw [zup_nc (by decide)], FS.up (Or.inl ⟨by decide, by decide⟩)⟩
  rw [e_M_goesBy, if_pos hz, nI_clamp (by omega), (R.2 p hp).1]
  unfold act ahr
  rw [nI_clamp (by omega)]
  by_cases k0 : tK t p = 0
  · rw [if_pos k0, if_pos k0, m_aheadOf R V hq, zbI_some]
    by_cases h1 : ahd t q = nI p
    · rw [if_pos h1, if_pos hz, if_pos hz, if_pos h1, (R.2 p hp).2.2.2.1]
      exact dD _
    · rw [if_neg h1, if_pos hz, if_pos hz, if_neg h1, (R.2 p hp).2.2.2.1]
      have := dD (tD t p)
      rw [wD_self] at this
      exact this
  · rw [if_neg k0, if_neg k0]
    by_cases k1 : tK t p = 1
    · rw [if_pos k1, if_pos hz, if_pos hz, if_pos k1, (R.2 p hp).2.2.2.1]
      exact dD _
    · rw [if_neg k1, if_neg k1]
      by_cases k2 : tK t p = 2
      · rw [if_pos k2, if_pos hz, if_pos k2, (R.2 p hp).2.2.2.1]
        obtain ⟨h', e, w⟩ := m_stepTo (X := X) R V hp t2
        unfold trn at e
        rw [e, zbV_some]
        exact ⟨h', rfl, w⟩
      · rw [if_neg k2, if_neg k2]
        by_cases k3 : tK t p = 3
        · rw [if_pos k3, if_pos hz, if_pos hz, if_pos k3, (R.2 p hp).2.2.2.1]
          exact dD _
        · rw [if_neg k3, if_neg k3]
          by_cases k4 : tK t p = 4
          · rw [if_pos k4, if_pos k4]
            exact ⟨h, rfl, R, rfl, rfl, rfl, FS.rf⟩
          · rw [if_neg k4, if_neg k4]
            by_cases k5 : tK t p = 5
            · rw [if_pos k5, if_pos hz, if_pos k5, (R.2 p hp).2.2.2.1]
              obtain ⟨h', e, w⟩ := m_stepTo (X := X) R V hp r4
              rw [e, zbV_some]
              exact ⟨h', rfl, w⟩
            · rw [if_neg k5, if_neg k5]
              exact ⟨h, rfl, R, rfl, rfl, rfl, FS.rf⟩
theorem lns_neg {p : Nat} (hn : tn t ≤ 6) : lns t p < 0 ↔ lns t p = -9 := by
  rcases lns_rg t p with q | ⟨q, h1, h2⟩
  · rw [q]; decide
  · rw [h2]
    have h5 := nI_pos (n := q) (by omega)
    exact ⟨fun z => absurd z h5, fun z => by rw [z] at h5; exact absurd (by decide) h5⟩
theorem m_nightF (sl : Int32) : ∀ (m p : Nat) (t : zT) (x y z : Int32) (h : zH) (g : Option Value), p + m = tn t → MR h t → tV t → h.1 123 10 = x → h.1 123 9 = z → ∃ h', zrn X 5 m_M_nightBy 22 [some (.ref 123), some (.int sl), some (.int (nI p)), g] [] h = some (none, h') ∧ MR h' (nightF sl m p t x y z).1 ∧ h'.1 123 10 = (nightF sl m p t x y z).2.1 ∧ h'.1 123 9 = (nightF sl m p t x y z).2.2.2 ∧ h'.1 123 6 = h.1 123 6 ∧ FS pN h h' := by
  intro m
  induction m with
  | zero =>
    intro p t x y z h g hp R V h7 h8
    rw [b_M_nightBy_22, R.1, if_pos (nI_le (by omega) (by have := V.1; omega))]
    exact ⟨h, rfl, R, h7, h8, rfl, FS.rf⟩
  | succ m ih =>
    intro p t x y z h g hp R V h7 h8
    have hn := V.1
    have hz : zin (nI p) 7 = true := zin_nI (by omega) (by decide)
    rw [b_M_nightBy_22, R.1, if_neg (nI_ge (by omega) (by omega))]
    unfold nightF
    by_cases hs : nI p = sl
    · rw [if_pos hs, if_pos hs, nI_add1]
      exact ih (p + 1) t x y z h _ (by omega) R V h7 h8
    · rw [if_neg hs, if_neg hs, m_lensOf R V (by omega), zbI_some]
      by_cases hl : lns t p = -9
      · rw [if_pos ((lns_neg hn).mpr hl), if_pos hl, nI_add1]
        exact ih (p + 1) t x y z h _ (by omega) R V h7 h8
      · rw [if_neg (fun q => hl ((lns_neg hn).mp q)), if_neg hl, if_pos hz, if_pos hz, if_pos hz, nI_clamp (by omega), (R.2 p (by omega)).2.2.2.2]
        rcases lns_rg t p with q | ⟨q, hq, eq⟩
        · exact absurd q hl
        obtain ⟨r1, r2, r3, r4, j, hj, e5⟩ := V.2 p (by omega)
        have hinc : tS t p + (if 99 ≤ tS t p then (0 : Int32) else 1) = inc (tS t p) := by rw [e5]; exact (inc_rg j hj).2
        rw [hinc]
        have V2 := tV_inc V (show p < tn t by omega)
        have R2 : MR (zup h.1 128 p (inc (tS t p)), h.2) (wS t p (inc (tS t p))) := R.uS
        have g10 : zup h.1 128 p (inc (tS t p)) 123 10 = x := by rw [zup_nc (by decide)]; exact h7
        rw [g10]
        have R3 : MR (zup (zup h.1 128 p (inc (tS t p))) 123 10 (x ||| bt p), h.2) (wS t p (inc (tS t p))) := R2.fld (by decide)
        obtain ⟨h', e, w1, w2, w3, w4, w5⟩ := m_goesBy (X := X) R3 V2 (p := p) (q := q) (show p < tn t by omega) (show q < tn t from hq)
        rw [eq]
        rw [show ((1 : Int32) <<< (nI p &&& 31)) = bt p from rfl, e, zbV_some, nI_add1]
        dsimp only at w2 w3 w4
        rw [zup_ns (by decide), zup_nc (by decide), h8] at w2
        rw [zup_eq] at w3
        rw [zup_ns (by decide), zup_nc (by decide)] at w4
        have tn3 : tn (act (wS t p (inc (tS t p))) p (nI q)).1 = tn t := (act_V V2 (p := p) (show p < tn t by omega) (nI q)).2
        have V3 := (act_V V2 (p := p) (show p < tn t by omega) (nI q)).1
        obtain ⟨h2, u1, u2, u3, u4, u5, u6⟩ := ih (p + 1) _ (x ||| bt p) (y ||| (if (act (wS t p (inc (tS t p))) p (nI q)).2.1 = true then bt p else 0)) (if (act (wS t p (inc (tS t p))) p (nI q)).2.2 = true then z ||| bt p else z) h' (some (.int (nI q))) (by rw [tn3]; omega) w1 V3 w3 w2
        have f1 : FS pN h (zup h.1 128 p (inc (tS t p)), h.2) := FS.up (Or.inl ⟨by decide, by decide⟩)
        have f2 : FS pN (zup h.1 128 p (inc (tS t p)), h.2) (zup (zup h.1 128 p (inc (tS t p))) 123 10 (x ||| bt p), h.2) := FS.up (h := (zup h.1 128 p (inc (tS t p)), h.2)) (Or.inr ⟨rfl, Or.inr (Or.inr rfl)⟩)
        exact ⟨h2, u1, u2, u3, u4, u5.trans w4, ((f1.tr f2).tr w5).tr u6⟩
theorem m_night (R : MR h t) (V : tV t) (sl : Int32) : ∃ h', zcf X m_M_nightBy [.ref 123, .int sl] h = some (none, h') ∧ MR h' (night t sl).1 ∧ h'.1 123 10 = (night t sl).2.1 ∧ h'.1 123 9 = (night t sl).2.2.2 ∧ h'.1 123 6 = h.1 123 6 + 1 ∧ FS pN h h' := by
  rw [e_M_nightBy]
  have R1 : MR (zup (zup (zup h.1 123 6 (h.1 123 6 + 1)) 123 9 0) 123 10 0, h.2) t := MR.fld (h := (zup (zup h.1 123 6 (h.1 123 6 + 1)) 123 9 0, h.2)) (MR.fld (h := (zup h.1 123 6 (h.1 123 6 + 1), h.2)) (R.fld (by decide)) (by decide)) (by decide)
  obtain ⟨h2, w1, w2, w3, w4, w5, w6⟩ := m_nightF (X := X) sl (tn t) 0 t 0 0 0 _ none (Nat.zero_add _) R1 V (by dsimp only; rw [zup_eq]) (by dsimp only; rw [zup_ns (by decide), zup_eq])
  have f1 : FS pN h (zup h.1 123 6 (h.1 123 6 + 1), h.2) := FS.up (Or.inr ⟨rfl, Or.inl rfl⟩)
  have f2 : FS pN (zup h.1 123 6 (h.1 123 6 + 1), h.2) (zup (zup h.1 123 6 (h.1 123 6 + 1)) 123 9 0, h.2) := FS.up (h := (zup h.1 123 6 (h.1 123 6 + 1), h.2)) (Or.inr ⟨rfl, Or.inr (Or.inl rfl)⟩)
  have f3 : FS pN (zup (zup h.1 123 6 (h.1 123 6 + 1)) 123 9 0, h.2) (zup (zup (zup h.1 123 6 (h.1 123 6 + 1)) 123 9 0) 123 10 0, h.2) := FS.up (h := (zup (zup h.1 123 6 (h.1 123 6 + 1)) 123 9 0, h.2)) (Or.inr ⟨rfl, Or.inr (Or.inr rfl)⟩)
  refine ⟨h2, w1, w2, w3, w4, by rw [w5]; dsimp only; rw [zup_ns (by decide), zup_ns (by decide), zup_eq], ((f1.tr f2).tr f3).tr w6⟩
end znm
