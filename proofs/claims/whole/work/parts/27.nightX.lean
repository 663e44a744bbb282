/-! a night, on both sides -/
/-- what a hill's calls leave as it was -/
def Fr (lo hi : Nat) (h h' : zH) : Prop := h'.2 = h.2 ∧ ∀ b j, (b < lo ∨ hi < b) → h'.1 b j = h.1 b j
theorem Fr.rf {lo hi : Nat} {h : zH} : Fr lo hi h h := ⟨rfl, fun _ _ _ => rfl⟩
theorem Fr.tr {lo hi : Nat} {h h1 h2 : zH} (x : Fr lo hi h h1) (y : Fr lo hi h1 h2) : Fr lo hi h h2 := ⟨y.1.trans x.1, fun b j hb => (y.2 b j hb).trans (x.2 b j hb)⟩
theorem Fr.up {lo hi : Nat} {h : zH} {a j : Nat} {v : Int32} (h1 : lo ≤ a) (h2 : a ≤ hi) : Fr lo hi h (zup h.1 a j v, h.2) := ⟨rfl, fun b i hb => zup_nc (by omega)⟩
theorem Fr.wid {lo hi lo' hi' : Nat} {h k : zH} (x : Fr lo hi h k) (h1 : lo' ≤ lo) (h2 : hi ≤ hi') : Fr lo' hi' h k := ⟨x.1, fun b j hb => x.2 b j (by omega)⟩
section znx
variable {X : zX} {h : zH} {a : Nat} {t : zT}
theorem s_turnsBy (H : isH a) (R : HR h a t) (hn : tn t ≤ 6) {p : Nat} (hp : p < tn t) {q : Int32} : zcf X m_H_turnsBy [.ref a, .int (nI p), .int q] h = some (some (.int 1), (zup h.1 (a + 4) p (trn (tD t p) q), h.2)) := by
  rw [e_H_turnsBy H, s_facOf H R hn hp, zbI_some, s_turned, zbI_some, s_put H.k3 (Nat.succ_pos _) (by omega) (by decide), zbV_some]
theorem s_stepsTo (H : isH a) (R : HR h a t) (hn : tn t ≤ 6) {p : Nat} (hp : p < tn t) {c : Int32} : ∃ h', zcf X m_H_stepsTo [.ref a, .int (nI p), .int c] h = some (some (.int (if (stp t p c).2.1 = true then 1 else 0)), h') ∧ HR h' a (stp t p c).1 ∧ Fr (a + 1) (a + 5) h h' := by
  rw [e_H_stepsTo H]
  unfold stp
  by_cases h1 : c = -1
  · rw [if_pos h1, if_pos h1]
    exact ⟨h, rfl, R, Fr.rf⟩
  · rw [if_neg h1, if_neg h1, s_isFree H R hn, zbI_some]
    by_cases h2 : who (tn t) (tC t) c = -9
    · rw [if_pos h2, if_neg (by decide), if_pos h2, s_put H.k2 (Nat.succ_pos _) (by omega) (by decide), zbV_some]
      exact ⟨_, rfl, R.uC, Fr.up (by omega) (by omega)⟩
    · rw [if_neg h2, if_pos rfl, if_neg h2]
      exact ⟨h, rfl, R, Fr.rf⟩
theorem z01 {b : Bool} {A : Option (Option Value × zH)} : (if (if b = true then (1 : Int32) else 0) = 0 ∨ (if b = true then (1 : Int32) else 0) = 1 then A else none) = A := by
  cases b
  · exact if_pos (Or.inl rfl)
  · exact if_pos (Or.inr rfl)
theorem s_stirs (H : isH a) (R : HR h a t) (V : tV t) {p q : Nat} (hp : p < tn t) (hq : q < tn t) : ∃ h', zcf X m_H_stirs [.ref a, .int (nI p), .int (nI q)] h = some (some (.int (if (act t p (nI q)).2.1 = true then 1 else 0)), h') ∧ HR h' a (act t p (nI q)).1 ∧ Fr (a + 1) (a + 5) h h' := by
  have hn := V.1
  rw [e_H_stirs H, s_kindOf H R hn hp, zbI_some]
  unfold act ahr
  rw [nI_clamp (by omega)]
  by_cases k0 : tK t p = 0
  · rw [if_pos k0, if_pos k0, s_ahead H R V hq, zbI_some]
    by_cases h1 : ahd t q = nI p
    · rw [if_pos h1, if_pos h1, s_turnsBy H R hn hp, zbI_some, if_neg (by decide)]
      exact ⟨_, rfl, R.uD, Fr.up (by omega) (by omega)⟩
    · rw [if_neg h1, if_neg h1]
      exact ⟨h, rfl, R, Fr.rf⟩
  · rw [if_neg k0, if_neg k0]
    by_cases k1 : tK t p = 1
    · rw [if_pos k1, if_pos k1, s_turnsBy H R hn hp, zbI_some, if_pos (Or.inr rfl)]
      exact ⟨_, rfl, R.uD, Fr.up (by omega) (by omega)⟩
    · rw [if_neg k1, if_neg k1]
      by_cases k2 : tK t p = 2
      · rw [if_pos k2, if_pos k2, s_celOf H R hn hp, zbI_some, s_facOf H R hn hp, zbI_some, s_turned, zbI_some, s_beside, zbI_some]
        obtain ⟨h', e, R', f⟩ := s_stepsTo (X := X) H R hn hp (c := bes (tC t p) (trn (tD t p) 2))
        rw [e, zbI_some, z01]
        exact ⟨h', rfl, R', f⟩
      · rw [if_neg k2, if_neg k2]
        by_cases k3 : tK t p = 3
        · rw [if_pos k3, if_pos k3, s_turnsBy H R hn hp, zbI_some, if_pos (Or.inr rfl)]
          exact ⟨_, rfl, R.uD, Fr.up (by omega) (by omega)⟩
        · rw [if_neg k3, if_neg k3]
          by_cases k4 : tK t p = 4
          · rw [if_pos k4, if_pos k4]
            exact ⟨h, rfl, R, Fr.rf⟩
          · rw [if_neg k4, if_neg k4]
            by_cases k5 : tK t p = 5
            · rw [if_pos k5, if_pos k5, s_celOf H R hn hp, zbI_some, s_facOf H R hn hp, zbI_some, s_beside, zbI_some]
              obtain ⟨h', e, R', f⟩ := s_stepsTo (X := X) H R hn hp (c := bes (tC t p) (tD t p))
              rw [e, zbI_some, z01]
              exact ⟨h', rfl, R', f⟩
            · rw [if_neg k5, if_neg k5]
              exact ⟨h, rfl, R, Fr.rf⟩
theorem lns_rg (t : zT) (p : Nat) : lns t p = -9 ∨ ∃ q, q < tn t ∧ lns t p = nI q := ray_rg _ _ _ _
theorem ahd_rg (t : zT) (p : Nat) : ahd t p = -9 ∨ ∃ q, q < tn t ∧ ahd t p = nI q := ray_rg _ _ _ _
theorem s_nightF (H : isH a) (sl : Int32) : ∀ (m p : Nat) (t : zT) (x y z : Int32) (h : zH) (g : Option Value), p + m = tn t → HR h a t → tV t → h.1 a 7 = x → h.1 a 8 = y → ∃ h', zrn X 4 m_H_nightWithout 22 [some (.ref a), some (.int sl), some (.int (nI p)), g] [] h = some (none, h') ∧ HR h' a (nightF sl m p t x y z).1 ∧ h'.1 a 7 = (nightF sl m p t x y z).2.1 ∧ h'.1 a 8 = (nightF sl m p t x y z).2.2.1 ∧ h'.1 a 6 = h.1 a 6 ∧ Fr a (a + 5) h h' := by
  intro m
  induction m with
  | zero =>
    intro p t x y z h g hp R V h7 h8
    rw [b_H_nightWithout_22 H, R.1, if_pos (nI_le (by omega) (by have := V.1; omega))]
    exact ⟨h, rfl, R, h7, h8, rfl, Fr.rf⟩
  | succ m ih =>
    intro p t x y z h g hp R V h7 h8
    have hn := V.1
    rw [b_H_nightWithout_22 H, R.1, if_neg (nI_ge (by omega) (by omega))]
    unfold nightF
    by_cases hs : nI p = sl
    · rw [if_pos hs, if_pos hs, nI_add1]
      exact ih (p + 1) t x y z h _ (by omega) R V h7 h8
    · rw [if_neg hs, if_neg hs, s_inLens H R V (by omega), zbI_some]
      by_cases hl : lns t p = -9
      · rw [if_pos hl, if_pos hl, nI_add1]
        exact ih (p + 1) t x y z h _ (by omega) R V h7 h8
      · rw [if_neg hl, if_neg hl]
        rcases lns_rg t p with q | ⟨q, hq, eq⟩
        · exact absurd q hl
        rw [s_bitOf (by omega), zbI_some]
        have R1 : HR (zup h.1 a 7 (h.1 a 7 ||| bt p), h.2) a t := R.fld (by decide)
        rw [s_staOf H R1 hn (by omega), zbI_some, s_put H.k4 (Nat.succ_pos _) (by omega) (by decide), zbV_some]
        have R2 : HR (zup (zup h.1 a 7 (h.1 a 7 ||| bt p)) (a + 5) p (inc (tS t p)), h.2) a (wS t p (inc (tS t p))) := R1.uS
        have V2 := tV_inc V (show p < tn t by omega)
        obtain ⟨h', e, R3, f⟩ := s_stirs (X := X) H R2 V2 (p := p) (q := q) (show p < tn t by omega) (show q < tn t from hq)
        rw [eq]
        rw [show (if tS t p + 1 < 99 then tS t p + 1 else 99) = inc (tS t p) from rfl, e, zbI_some]
        have g8 : (zup (zup h.1 a 7 (h.1 a 7 ||| bt p)) (a + 5) p (inc (tS t p))) a 8 = y := by rw [zup_nc (by omega), zup_ns (by decide)]; exact h8
        have f7 : h'.1 a 7 = x ||| bt p := by rw [f.2 a 7 (by omega)]; show zup (zup h.1 a 7 _) (a + 5) p _ a 7 = _; rw [zup_nc (by omega), zup_eq, h7]
        have f6 : h'.1 a 6 = h.1 a 6 := by rw [f.2 a 6 (by omega)]; show zup (zup h.1 a 7 _) (a + 5) p _ a 6 = _; rw [zup_nc (by omega), zup_ns (by decide)]
        have ff1 : Fr a (a + 5) h (zup h.1 a 7 (h.1 a 7 ||| bt p), h.2) := Fr.up (by omega) (by omega)
        have ff2 : Fr a (a + 5) (zup h.1 a 7 (h.1 a 7 ||| bt p), h.2) (zup (zup h.1 a 7 (h.1 a 7 ||| bt p)) (a + 5) p (inc (tS t p)), h.2) := Fr.up (h := (zup h.1 a 7 (h.1 a 7 ||| bt p), h.2)) (by omega) (by omega)
        have ff3 : Fr a (a + 5) (zup (zup h.1 a 7 (h.1 a 7 ||| bt p)) (a + 5) p (inc (tS t p)), h.2) h' := f.wid (by omega) (by omega)
        have ff : Fr a (a + 5) h h' := (ff1.tr ff2).tr ff3
        have tn3 : tn (act (wS t p (inc (tS t p))) p (nI q)).1 = tn t := (act_V V2 (p := p) (show p < tn t by omega) (nI q)).2
        have V3 := (act_V V2 (p := p) (show p < tn t by omega) (nI q)).1
        dsimp only
        rw [g8]
        by_cases hb : (act (wS t p (inc (tS t p))) p (nI q)).2.1 = true
        · rw [if_pos hb, if_neg (by decide), s_bitOf (by omega), zbI_some, nI_add1, if_pos hb]
          obtain ⟨h2, w1, w2, w3, w4, w5, w6⟩ := ih (p + 1) _ (x ||| bt p) (y ||| bt p) (if (act (wS t p (inc (tS t p))) p (nI q)).2.2 = true then z ||| bt p else z) (zup h'.1 a 8 (y ||| bt p), h'.2) (some (.int (nI q))) (by rw [tn3]; omega) (R3.fld (by decide)) V3 (by dsimp only; rw [zup_ns (by decide)]; exact f7) zup_eq
          exact ⟨h2, w1, w2, w3, w4, by rw [w5]; dsimp only; rw [zup_ns (by decide)]; exact f6, (ff.tr (Fr.up (by omega) (by omega))).tr w6⟩
        · rw [if_neg hb, if_pos rfl, nI_add1, if_neg hb]
          obtain ⟨h2, w1, w2, w3, w4, w5, w6⟩ := ih (p + 1) _ (x ||| bt p) (y ||| 0) (if (act (wS t p (inc (tS t p))) p (nI q)).2.2 = true then z ||| bt p else z) (zup h'.1 a 8 (y ||| 0), h'.2) (some (.int (nI q))) (by rw [tn3]; omega) (R3.fld (by decide)) V3 (by dsimp only; rw [zup_ns (by decide)]; exact f7) zup_eq
          exact ⟨h2, w1, w2, w3, w4, by rw [w5]; dsimp only; rw [zup_ns (by decide)]; exact f6, (ff.tr (Fr.up (by omega) (by omega))).tr w6⟩
theorem s_night (H : isH a) (R : HR h a t) (V : tV t) (sl : Int32) : ∃ h', zcf X m_H_nightWithout [.ref a, .int sl] h = some (none, h') ∧ HR h' a (night t sl).1 ∧ h'.1 a 7 = (night t sl).2.1 ∧ h'.1 a 8 = (night t sl).2.2.1 ∧ h'.1 a 6 = h.1 a 6 + 1 ∧ Fr a (a + 5) h h' := by
  rw [e_H_nightWithout H]
  have R1 : HR (zup (zup (zup h.1 a 6 (h.1 a 6 + 1)) a 7 0) a 8 0, h.2) a t := HR.fld (h := (zup (zup h.1 a 6 (h.1 a 6 + 1)) a 7 0, h.2)) (HR.fld (h := (zup h.1 a 6 (h.1 a 6 + 1), h.2)) (R.fld (by decide)) (by decide)) (by decide)
  obtain ⟨h2, w1, w2, w3, w4, w5, w6⟩ := s_nightF (X := X) H sl (tn t) 0 t 0 0 0 _ none (Nat.zero_add _) R1 V (by dsimp only; rw [zup_ns (by decide), zup_eq]) zup_eq
  refine ⟨h2, w1, w2, w3, w4, by rw [w5]; dsimp only; rw [zup_ns (by decide), zup_ns (by decide), zup_eq], Fr.tr ?_ w6⟩
  exact ((Fr.up (by omega) (by omega)).tr (Fr.up (h := (zup h.1 a 6 (h.1 a 6 + 1), h.2)) (by omega) (by omega))).tr (Fr.up (h := (zup (zup h.1 a 6 (h.1 a 6 + 1)) a 7 0, h.2)) (by omega) (by omega))
end znx
