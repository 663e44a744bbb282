/-! what a night has changed: still, walks, behind -/
theorem whoF_none {C : zA} {c : Int32} : ∀ (m p : Nat), whoF C c m p = -9 → p + m ≤ 6 → ∀ q, p ≤ q → q < p + m → C q ≠ c := by
  intro m
  induction m with
  | zero => intro p _ _ q h1 h2; omega
  | succ m ih =>
    intro p h h6 q h1 h2
    unfold whoF at h
    by_cases e : C p = c
    · rw [if_pos e] at h
      exact absurd h.symm ((by decide : ∀ p, p < 6 → ¬ (-9 : Int32) = nI p) p (by omega))
    · rw [if_neg e] at h
      by_cases z : q = p
      · rw [z]; exact e
      · exact ih (p + 1) h (by omega) q (by omega) (by omega)
theorem who_own {t : zT} (hn : tn t ≤ 6) {p : Nat} (hp : p < tn t) {c : Int32} (h : who (tn t) (tC t) c = -9) : c ≠ tC t p := fun e => whoF_none _ _ h (by omega) p (Nat.zero_le _) (by omega) e.symm
theorem ke_trn : ∀ c, c < 36 → ∀ d, d < 4 → (4 * nI c + trn (nI d) 1 ≠ 4 * nI c + nI d) ∧ (4 * nI c + trn (nI d) 2 ≠ 4 * nI c + nI d) := by decide +kernel
theorem ke_cel : ∀ c, c < 36 → ∀ c', c' < 36 → ∀ d, d < 4 → 4 * nI c' + nI d = 4 * nI c + nI d → c' = c := by decide +kernel
theorem hFT : ¬ (false = true) := by decide
theorem hTF : ¬ (true = false) := by decide
theorem stp_ch {t : zT} (V : tV t) {p : Nat} (hp : p < tn t) {c : Int32} (hc : c = -1 ∨ rg c 36) : ((stp t p c).2.1 = false → (stp t p c).1 = t) ∧ ((stp t p c).2.1 = true → 4 * tC (stp t p c).1 p + tD (stp t p c).1 p ≠ 4 * tC t p + tD t p) ∧ ((stp t p c).2.2 = true ↔ tC (stp t p c).1 p ≠ tC t p) := by
  unfold stp
  by_cases h1 : c = -1
  · rw [if_pos h1]
    exact ⟨fun _ => rfl, fun h => absurd (show false = true from h) hFT, fun h => absurd (show false = true from h) hFT, fun h => absurd rfl h⟩
  · rw [if_neg h1]
    by_cases h2 : who (tn t) (tC t) c = -9
    · rw [if_pos h2]
      have hne := who_own V.1 hp h2
      have e1 : tC (wC t p c) p = c := by show zua _ _ _ _ = _; unfold zua; rw [if_pos rfl]
      have e2 : tD (wC t p c) p = tD t p := rfl
      refine ⟨fun h => absurd (show true = false from h) hTF, fun _ => ?_, fun _ => by dsimp only; rw [e1]; exact hne, fun _ => rfl⟩
      dsimp only
      rw [e1, e2]
      obtain ⟨-, -, ⟨i, hi, ei⟩, ⟨d, hd, ed⟩, -⟩ := V.2 p hp
      rcases hc with hc | ⟨j, hj, ej⟩
      · exact absurd hc h1
      · rw [ei, ed, ej]
        intro z
        have := ke_cel i hi j hj d hd z
        exact hne (by rw [ej, ei, this])
    · rw [if_neg h2]
      exact ⟨fun _ => rfl, fun h => absurd (show false = true from h) hFT, fun h => absurd (show false = true from h) hFT, fun h => absurd rfl h⟩
theorem trn_ch {t : zT} (V : tV t) {p : Nat} (hp : p < tn t) {q : Int32} (hq : q = 1 ∨ q = 2) : 4 * tC (wD t p (trn (tD t p) q)) p + tD (wD t p (trn (tD t p) q)) p ≠ 4 * tC t p + tD t p := by
  obtain ⟨-, -, ⟨i, hi, ei⟩, ⟨d, hd, ed⟩, -⟩ := V.2 p hp
  have e1 : tD (wD t p (trn (tD t p) q)) p = trn (tD t p) q := by show zua _ _ _ _ = _; unfold zua; rw [if_pos rfl]
  have e2 : tC (wD t p (trn (tD t p) q)) p = tC t p := rfl
  rw [e1, e2, ei, ed]
  rcases hq with rfl | rfl
  · exact (ke_trn i hi d hd).1
  · exact (ke_trn i hi d hd).2
theorem bes_ok {t : zT} (V : tV t) {p : Nat} (hp : p < tn t) {w : Int32} (hw : rg w 4) : bes (tC t p) w = -1 ∨ rg (bes (tC t p) w) 36 := by
  obtain ⟨-, -, ⟨i, hi, ei⟩, -⟩ := V.2 p hp
  obtain ⟨d, hd, rfl⟩ := hw
  rw [ei]
  exact bes_rg i hi d hd
theorem act_ch {t : zT} (V : tV t) {p : Nat} (hp : p < tn t) (r : Int32) : ((act t p r).2.1 = false → (act t p r).1 = t) ∧ ((act t p r).2.1 = true → 4 * tC (act t p r).1 p + tD (act t p r).1 p ≠ 4 * tC t p + tD t p) ∧ ((act t p r).2.2 = true ↔ tC (act t p r).1 p ≠ tC t p) := by
  have hd := (V.2 p hp).2.2.2.1
  have no : ((t, false, false).2.1 = false → (t, false, false).1 = t) ∧ ((t, false, false).2.1 = true → 4 * tC (t, false, false).1 p + tD (t, false, false).1 p ≠ 4 * tC t p + tD t p) ∧ ((t, false, false).2.2 = true ↔ tC (t, false, false).1 p ≠ tC t p) := ⟨fun _ => rfl, fun h => absurd (show false = true from h) hFT, fun h => absurd (show false = true from h) hFT, fun h => absurd rfl h⟩
  have tu : ∀ q : Int32, (q = 1 ∨ q = 2) → ((wD t p (trn (tD t p) q), true, false).2.1 = false → (wD t p (trn (tD t p) q), true, false).1 = t) ∧ ((wD t p (trn (tD t p) q), true, false).2.1 = true → 4 * tC (wD t p (trn (tD t p) q), true, false).1 p + tD (wD t p (trn (tD t p) q), true, false).1 p ≠ 4 * tC t p + tD t p) ∧ ((wD t p (trn (tD t p) q), true, false).2.2 = true ↔ tC (wD t p (trn (tD t p) q), true, false).1 p ≠ tC t p) := fun q hq => ⟨fun h => absurd (show true = false from h) hTF, fun _ => trn_ch V hp hq, fun h => absurd (show false = true from h) hFT, fun h => absurd rfl h⟩
  unfold act
  by_cases k0 : tK t p = 0
  · rw [if_pos k0]
    by_cases a : ahr t r = nI p
    · rw [if_pos a]; exact tu 2 (Or.inr rfl)
    · rw [if_neg a]; exact no
  · rw [if_neg k0]
    by_cases k1 : tK t p = 1
    · rw [if_pos k1]; exact tu 1 (Or.inl rfl)
    · rw [if_neg k1]
      by_cases k2 : tK t p = 2
      · rw [if_pos k2]; exact stp_ch V hp (bes_ok V hp (rg_trn hd (q := 2) (by decide)))
      · rw [if_neg k2]
        by_cases k3 : tK t p = 3
        · rw [if_pos k3]; exact tu 2 (Or.inr rfl)
        · rw [if_neg k3]
          by_cases k4 : tK t p = 4
          · rw [if_pos k4]; exact no
          · rw [if_neg k4]
            by_cases k5 : tK t p = 5
            · rw [if_pos k5]; exact stp_ch V hp (bes_ok V hp hd)
            · rw [if_neg k5]; exact no
theorem zua_ne {A : zA} {p q : Nat} {v : Int32} (h : q ≠ p) : zua A p v q = A q := by unfold zua; rw [if_neg h]
theorem stp_oth {t : zT} {p q : Nat} {c : Int32} (h : q ≠ p) : tC (stp t p c).1 q = tC t q ∧ tD (stp t p c).1 q = tD t q := by
  unfold stp
  split
  · exact ⟨rfl, rfl⟩
  · split
    · exact ⟨zua_ne h, rfl⟩
    · exact ⟨rfl, rfl⟩
theorem act_oth {t : zT} {p q : Nat} {r : Int32} (h : q ≠ p) : tC (act t p r).1 q = tC t q ∧ tD (act t p r).1 q = tD t q := by
  have tu : ∀ v : Int32, tC (wD t p v) q = tC t q ∧ tD (wD t p v) q = tD t q := fun v => ⟨rfl, zua_ne h⟩
  unfold act
  split
  · split
    · exact tu _
    · exact ⟨rfl, rfl⟩
  · split
    · exact tu _
    · split
      · exact stp_oth h
      · split
        · exact tu _
        · split
          · exact ⟨rfl, rfl⟩
          · split
            · exact stp_oth h
            · exact ⟨rfl, rfl⟩
theorem bt_1 : ∀ j, j < 64 → ∀ p, p < 6 → (nI j ||| bt p) &&& bt p ≠ 0 := by decide +kernel
theorem bt_2 : ∀ j, j < 64 → ∀ p, p < 6 → ∀ q, q < 6 → q ≠ p → (nI j ||| bt p) &&& bt q = nI j &&& bt q := by decide +kernel
theorem bt_0 : ∀ j, j < 64 → (∀ p, p < 6 → nI j &&& bt p = 0) → nI j = 0 := by decide +kernel
theorem bt_v {y : Int32} (hy : rg y 64) {p : Nat} (hp : p < 6) {b : Bool} : ((y ||| (if b = true then bt p else 0)) &&& bt p = 0 ↔ y &&& bt p = 0 ∧ b = false) ∧ ∀ q, q < 6 → q ≠ p → (y ||| (if b = true then bt p else 0)) &&& bt q = y &&& bt q := by
  obtain ⟨j, hj, rfl⟩ := hy
  cases b
  · rw [if_neg (by decide), i_or0]
    exact ⟨⟨fun h => ⟨h, rfl⟩, fun h => h.1⟩, fun _ _ _ => rfl⟩
  · rw [if_pos rfl]
    exact ⟨⟨fun h => absurd h (bt_1 j hj p hp), fun h => absurd h.2 (by decide)⟩, fun q hq hqp => bt_2 j hj p hp q hq hqp⟩
/-- what a night leaves of one -/
def nch (t : zT) (r : zT × Int32 × Int32 × Int32) (q : Nat) : Prop := (r.2.2.1 &&& bt q = 0 ↔ 4 * tC r.1 q + tD r.1 q = 4 * tC t q + tD t q) ∧ (r.2.2.2 &&& bt q = 0 ↔ tC r.1 q = tC t q) ∧ (r.2.2.1 &&& bt q = 0 → tC r.1 q = tC t q ∧ tD r.1 q = tD t q)
def nSt (t : zT) (y z : Int32) (p m : Nat) (r : zT × Int32 × Int32 × Int32) : Prop := (∀ q, q < p → tC r.1 q = tC t q ∧ tD r.1 q = tD t q) ∧ (∀ q, q < 6 → (q < p ∨ p + m ≤ q) → r.2.2.1 &&& bt q = y &&& bt q ∧ r.2.2.2 &&& bt q = z &&& bt q) ∧ (∀ q, p ≤ q → q < p + m → y &&& bt q = 0 → z &&& bt q = 0 → nch t r q) ∧ rg r.2.2.1 64 ∧ rg r.2.2.2 64
theorem nightF_ch (sl : Int32) : ∀ (m p : Nat) (t : zT) (x y z : Int32), p + m ≤ tn t → tV t → rg y 64 → rg z 64 → nSt t y z p m (nightF sl m p t x y z) := by
  intro m
  induction m with
  | zero =>
    intro p t x y z _ V hy hz
    exact ⟨fun _ _ => ⟨rfl, rfl⟩, fun _ _ _ => ⟨rfl, rfl⟩, fun q h1 h2 => by omega, hy, hz⟩
  | succ m ih =>
    intro p t x y z hp V hy hz
    have h6 := V.1
    have skip : nightF sl (m + 1) p t x y z = nightF sl m (p + 1) t x y z → nSt t y z p (m + 1) (nightF sl (m + 1) p t x y z) := fun e => by
      have i := ih (p + 1) t x y z (by omega) V hy hz
      obtain ⟨i1, i2, i3, i4, i5⟩ := i
      rw [e]
      refine ⟨fun q hq => i1 q (by omega), fun q h6 hq => i2 q h6 (by omega), fun q h1 h2 hy0 hz0 => ?_, i4, i5⟩
      by_cases eq : q = p
      · subst eq
        obtain ⟨a1, a2⟩ := i1 q (by omega)
        obtain ⟨b1, b2⟩ := i2 q (by omega) (Or.inl (by omega))
        refine ⟨⟨fun _ => by rw [a1, a2], fun _ => by rw [b1]; exact hy0⟩, ⟨fun _ => a1, fun _ => by rw [b2]; exact hz0⟩, fun _ => ⟨a1, a2⟩⟩
      · exact i3 q (by omega) (by omega) hy0 hz0
    by_cases h1 : nI p = sl
    · exact skip (by show (if nI p = sl then _ else _) = _; rw [if_pos h1])
    · by_cases h2 : lns t p = -9
      · exact skip (by show (if nI p = sl then _ else (if lns t p = -9 then _ else _)) = _; rw [if_neg h1, if_pos h2])
      · clear skip
        have e : nightF sl (m + 1) p t x y z = nightF sl m (p + 1) (act (wS t p (inc (tS t p))) p (lns t p)).1 (x ||| bt p) (y ||| (if (act (wS t p (inc (tS t p))) p (lns t p)).2.1 = true then bt p else 0)) (if (act (wS t p (inc (tS t p))) p (lns t p)).2.2 = true then z ||| bt p else z) := by show (if nI p = sl then _ else (if lns t p = -9 then _ else _)) = _; rw [if_neg h1, if_neg h2]
        have V1 := tV_inc V (p := p) (by omega)
        have c := act_ch V1 (p := p) (show p < tn t by omega) (lns t p)
        have v := act_V V1 (p := p) (show p < tn t by omega) (lns t p)
        have o := fun q (hq : q ≠ p) => @act_oth (wS t p (inc (tS t p))) p q (lns t p) hq
        rw [e]
        generalize act (wS t p (inc (tS t p))) p (lns t p) = u at c v o
        have ez : (if u.2.2 = true then z ||| bt p else z) = z ||| (if u.2.2 = true then bt p else 0) := by
          by_cases s : u.2.2 = true
          · rw [if_pos s, if_pos s]
          · rw [if_neg s, if_neg s, i_or0]
        rw [ez]
        obtain ⟨c1, c2, c3⟩ := c
        obtain ⟨i1, i2, i3, i4, i5⟩ := ih (p + 1) u.1 (x ||| bt p) (y ||| (if u.2.1 = true then bt p else 0)) (z ||| (if u.2.2 = true then bt p else 0)) (by rw [v.2]; show p + 1 + m ≤ tn t; omega) v.1 (rg_or hy (by omega)) (rg_or hz (by omega))
        obtain ⟨y1, y2⟩ := bt_v hy (p := p) (by omega) (b := u.2.1)
        obtain ⟨z1, z2⟩ := bt_v hz (p := p) (by omega) (b := u.2.2)
        refine ⟨fun q hq => ?_, fun q h6 hq => ?_, fun q h1 h2 hy0 hz0 => ?_, i4, i5⟩
        · obtain ⟨a1, a2⟩ := i1 q (by omega)
          obtain ⟨b1, b2⟩ := o q (by omega)
          exact ⟨a1.trans b1, a2.trans b2⟩
        · obtain ⟨a1, a2⟩ := i2 q h6 (by omega)
          exact ⟨a1.trans (y2 q h6 (by omega)), a2.trans (z2 q h6 (by omega))⟩
        · by_cases eq : q = p
          · subst eq
            obtain ⟨a1, a2⟩ := i1 q (by omega)
            obtain ⟨b1, b2⟩ := i2 q (by omega) (Or.inl (by omega))
            have cc : tC (wS t q (inc (tS t q))) q = tC t q := rfl
            have cd : tD (wS t q (inc (tS t q))) q = tD t q := rfl
            rw [cc, cd] at c2
            rw [cc] at c3
            have k1 : u.2.1 = false → tC u.1 q = tC t q ∧ tD u.1 q = tD t q := fun z => by rw [c1 z]; exact ⟨rfl, rfl⟩
            unfold nch
            rw [b1, b2, a1, a2, y1, z1]
            refine ⟨⟨fun h => ?_, fun h => ⟨hy0, ?_⟩⟩, ⟨fun h => ?_, fun h => ⟨hz0, ?_⟩⟩, fun h => k1 h.2⟩
            · obtain ⟨k2, k3⟩ := k1 h.2
              rw [k2, k3]
            · cases hb : u.2.1
              · rfl
              · exact absurd h (c2 hb)
            · cases Decidable.em (tC u.1 q = tC t q) with
              | inl k => exact k
              | inr k =>
                have := c3.mpr k
                rw [h.2] at this
                exact absurd this (by decide)
            · cases hb : u.2.2
              · rfl
              · exact absurd h (c3.mp hb)
          · have k1 := o q eq
            have k2 := i3 q (by omega) (by omega) (by rw [y2 q (by omega) eq]; exact hy0) (by rw [z2 q (by omega) eq]; exact hz0)
            unfold nch at k2 ⊢
            rw [k1.1, k1.2] at k2
            exact k2
theorem i_0and (F : Int32) : (0 : Int32) &&& F = 0 := by simp
theorem night_ch {t : zT} (V : tV t) (sl : Int32) : (∀ q, q < tn t → nch t (night t sl) q) ∧ rg (night t sl).2.2.1 64 ∧ rg (night t sl).2.2.2 64 ∧ ((night t sl).2.2.1 = 0 ↔ ∀ q, q < tn t → 4 * tC (night t sl).1 q + tD (night t sl).1 q = 4 * tC t q + tD t q) := by
  obtain ⟨a1, a2, a3, a4, a5⟩ := nightF_ch sl (tn t) 0 t 0 0 0 (by omega) V ⟨0, by decide, rfl⟩ ⟨0, by decide, rfl⟩
  have a3' : ∀ q, q < tn t → nch t (night t sl) q := fun q hq => a3 q (Nat.zero_le _) (by omega) (i_0and _) (i_0and _)
  refine ⟨a3', a4, a5, fun h q hq => (a3' q hq).1.mp (by rw [h]; exact i_0and _), fun h => ?_⟩
  have h6 := V.1
  have hz : ∀ q, q < 6 → (night t sl).2.2.1 &&& bt q = 0 := fun q hq => by
    by_cases z : q < tn t
    · exact (a3' q z).1.mpr (h q z)
    · exact (a2 q hq (Or.inr (by omega))).1.trans (i_0and _)
  obtain ⟨j, hj, ej⟩ : rg (night t sl).2.2.1 64 := a4
  rw [ej] at hz ⊢
  exact bt_0 j hj hz
