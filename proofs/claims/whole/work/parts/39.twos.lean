/-! twos, knows -/
/-- whom one sees, ahead (0) or in the lens (1) -/
def sees (t : zT) (x : Int32) (p : Nat) : Int32 := if x = 0 then ahd t p else lns t p
theorem sees_rg (t : zT) (x : Int32) (p : Nat) : sees t x p = -9 ∨ ∃ q, q < tn t ∧ sees t x p = nI q := by
  unfold sees
  split
  · exact ahd_rg t p
  · exact lns_rg t p
/-- 1 if this one sees one behind him in number who sees him too -/
def twoP (t : zT) (x : Int32) (p : Nat) : Int32 := if sees t x p ≤ nI p then 0 else (if sees t x (sees t x p).toNatClampNeg = nI p then 1 else 0)
def twoF (t : zT) (x : Int32) : Nat → Nat → Int32 → Int32 := fold fun p y => y + twoP t x p
theorem i_add0 (y : Int32) : y + 0 = y := by simp
section z39
variable {X : zX} {h : zH} {w : zW} {mx mm : zM} {as : List Value} {t : zT}
theorem s_twoF (H : isH 2) (R : HR h 2 t) (V : tV t) (x : Int32) : ∀ (m p : Nat) (y : Int32) (g1 g2 : Option Value), p + m = tn t → zrn X 3 m_X_twos 20 [some (.ref 1), some (.int x), some (.int y), some (.int (nI p)), g1, g2] [] h = some (some (.int (twoF t x m p y)), h) := by
  have hn := V.1
  intro m
  induction m with
  | zero =>
    intro p y g1 g2 hp
    rw [b_X_twos_20, R.1, if_pos (nI_le (by omega) (by omega))]
    rfl
  | succ m ih =>
    intro p y g1 g2 hp
    have e : twoF t x (m + 1) p y = twoF t x m (p + 1) (y + twoP t x p) := rfl
    rw [b_X_twos_20, R.1, if_neg (nI_ge (by omega) (by omega)), nI_add1, e]
    unfold twoP
    by_cases hx : x = 0
    · have e1 : ∀ q, sees t x q = ahd t q := fun q => by unfold sees; rw [if_pos hx]
      rw [if_pos hx, s_ahead H R V (by omega), zbI_some, e1 p]
      by_cases h1 : ahd t p ≤ nI p
      · rw [if_pos h1, if_pos h1, i_add0, ih _ _ _ _ (by omega)]
      · rw [if_neg h1, if_neg h1, if_pos hx]
        rcases ahd_rg t p with q | ⟨j, hj, q⟩
        · rw [q] at h1
          exact absurd (Int32.le_iff_toInt_le.mpr (by rw [nI_toInt (by omega), show (-9 : Int32).toInt = -9 by decide]; omega)) h1
        · rw [q, s_ahead H R V hj, zbI_some, nI_clamp (by omega), e1 j, ih _ _ _ _ (by omega)]
    · have e1 : ∀ q, sees t x q = lns t q := fun q => by unfold sees; rw [if_neg hx]
      rw [if_neg hx, s_inLens H R V (by omega), zbI_some, e1 p]
      by_cases h1 : lns t p ≤ nI p
      · rw [if_pos h1, if_pos h1, i_add0, ih _ _ _ _ (by omega)]
      · rw [if_neg h1, if_neg h1, if_neg hx]
        rcases lns_rg t p with q | ⟨j, hj, q⟩
        · rw [q] at h1
          exact absurd (Int32.le_iff_toInt_le.mpr (by rw [nI_toInt (by omega), show (-9 : Int32).toInt = -9 by decide]; omega)) h1
        · rw [q, s_inLens H R V hj, zbI_some, nI_clamp (by omega), e1 j, ih _ _ _ _ (by omega)]
/-- what a second one adds in the model's inner loop -/
def twoQ (t : zT) (x : Int32) (p q : Nat) : Int32 := if sees t x p = nI q ∧ sees t x q = nI p then 1 else 0
def twoJ (t : zT) (x : Int32) (p : Nat) : Nat → Nat → Int32 → Int32 := fold fun q y => y + twoQ t x p q
theorem twoJ_none (t : zT) (x : Int32) (p : Nat) : ∀ (m q : Nat) (y : Int32), q + m = tn t → tn t ≤ 6 → (∀ j, q ≤ j → j < tn t → sees t x p ≠ nI j) → twoJ t x p m q y = y := by
  intro m
  induction m with
  | zero => intro q y _ _ _; rfl
  | succ m ih =>
    intro q y hq hn hj
    have e : twoJ t x p (m + 1) q y = twoJ t x p m (q + 1) (y + twoQ t x p q) := rfl
    rw [e, ih _ _ (by omega) hn (fun j h1 h2 => hj j (by omega) h2)]
    unfold twoQ
    rw [if_neg (fun z => hj q (by omega) (by omega) z.1), i_add0]
theorem twoJ_one (t : zT) (x : Int32) (p : Nat) {j : Nat} (hj : j < tn t) (hs : sees t x p = nI j) : ∀ (m q : Nat) (y : Int32), q + m = tn t → tn t ≤ 6 → q ≤ j → twoJ t x p m q y = y + (if sees t x j = nI p then 1 else 0) := by
  intro m
  induction m with
  | zero => intro q y h1 _ h2; omega
  | succ m ih =>
    intro q y hq hn hqj
    have e : twoJ t x p (m + 1) q y = twoJ t x p m (q + 1) (y + twoQ t x p q) := rfl
    rw [e]
    unfold twoQ
    by_cases q1 : q = j
    · subst q1
      rw [twoJ_none t x p m (q + 1) _ (by omega) hn (fun i h1 h2 z => by rw [hs] at z; exact absurd ((nI_eq (by omega) (by omega)).mp z) (by omega))]
      by_cases h2 : sees t x q = nI p
      · rw [if_pos ⟨hs, h2⟩, if_pos h2]
      · rw [if_neg (fun z => h2 z.2), if_neg h2]
    · rw [if_neg (fun z => q1 (by have z1 := z.1; rw [hs] at z1; exact ((nI_eq (by omega) (by omega)).mp z1).symm)), i_add0]
      exact ih _ _ (by omega) hn (by omega)
theorem twoJ_P {x : Int32} {p : Nat} (V : tV t) (hp : p < tn t) (m : Nat) (hm : p + 1 + m = tn t) (y : Int32) : twoJ t x p m (p + 1) y = y + twoP t x p := by
  have hn := V.1
  unfold twoP
  rcases sees_rg t x p with q | ⟨j, hj, q⟩
  · rw [q, if_pos (Int32.le_iff_toInt_le.mpr (by rw [nI_toInt (by omega), show (-9 : Int32).toInt = -9 by decide]; omega)), i_add0]
    refine twoJ_none t x p m _ y hm hn fun j h1 h2 => ?_
    rw [q]
    have : ∀ q, q < 6 → ¬ (-9 : Int32) = nI q := by decide
    exact this j (by omega)
  · rw [q, nI_clamp (by omega)]
    by_cases h1 : j ≤ p
    · rw [if_pos (nI_le h1 (by omega)), i_add0]
      refine twoJ_none t x p m _ y hm hn fun i h1 h2 z => ?_
      rw [q] at z
      exact absurd ((nI_eq (by omega) (by omega)).mp z) (by omega)
    · rw [if_neg (nI_ge (by omega) (by omega))]
      exact twoJ_one t x p hj q m (p + 1) y hm hn (by omega)
theorem b01 {c : Prop} [Decidable c] {α : Type} {a b : α} : (if (if c then (1 : Int32) else 0) = 0 then a else b) = if c then b else a := by
  by_cases q : c
  · rw [if_pos q, if_pos q, if_neg (by decide)]
  · rw [if_neg q, if_neg q, if_pos rfl]
theorem s0 {q : Nat} : sees t 0 q = ahd t q := rfl
theorem s1 {q : Nat} : sees t 1 q = lns t q := rfl
theorem twoQ0 {p q : Nat} (h : ahd t p = nI q) : twoQ t 0 p q = if ahd t q = nI p then 1 else 0 := by
  unfold twoQ
  rw [s0, s0]
  by_cases g : ahd t q = nI p
  · rw [if_pos ⟨h, g⟩, if_pos g]
  · rw [if_neg (fun z => g z.2), if_neg g]
theorem twoQ1 {p q : Nat} (h : lns t p = nI q) : twoQ t 1 p q = if lns t q = nI p then 1 else 0 := by
  unfold twoQ
  rw [s1, s1]
  by_cases g : lns t q = nI p
  · rw [if_pos ⟨h, g⟩, if_pos g]
  · rw [if_neg (fun z => g z.2), if_neg g]
theorem twoQ0n {p q : Nat} (h : ¬ ahd t p = nI q) : twoQ t 0 p q = 0 := by
  unfold twoQ
  rw [s0, if_neg (fun z => h z.1)]
theorem twoQ1n {p q : Nat} (h : ¬ lns t p = nI q) : twoQ t 1 p q = 0 := by
  unfold twoQ
  rw [s1, if_neg (fun z => h z.1)]
theorem m_twoJ (R : MR h t) (V : tV t) {x : Int32} (hx : x = 0 ∨ x = 1) {p : Nat} (hp : p < tn t) : ∀ (m q : Nat) (y : Int32) (g1 g2 : Option Value), q + m = tn t → ∃ g1' g2' g3', zrn X 4 m_M_twos 39 [some (.ref 123), some (.int x), some (.int y), some (.int (nI p)), some (.int (nI q)), g1, g2] [] h = zrn X 4 m_M_twos 26 [some (.ref 123), some (.int x), some (.int (twoJ t x p m q y)), some (.int (nI (p + 1))), g1', g2', g3'] [] h := by
  have hn := V.1
  intro m
  induction m with
  | zero =>
    intro q y g1 g2 hq
    refine ⟨some (Value.int (nI q)), g1, g2, ?_⟩
    rw [b_M_twos_39, R.1, if_pos (nI_le (by omega) (by omega)), nI_add1]
    rfl
  | succ m ih =>
    intro q y g1 g2 hq
    have hq6 : q < tn t := by omega
    have e : twoJ t x p (m + 1) q y = twoJ t x p m (q + 1) (y + twoQ t x p q) := rfl
    rw [e, b_M_twos_39, R.1, if_neg (nI_ge (by omega) (by omega)), m_aheadOf R V hp, zbI_some, nI_add1]
    by_cases h1 : ahd t p = nI q
    · rw [if_pos h1, m_aheadOf R V hq6, zbI_some, m_lensOf R V hp, zbI_some]
      by_cases h2 : lns t p = nI q
      · rw [if_pos h2, m_lensOf R V hq6, zbI_some, b01, b01]
        obtain ⟨g1', g2', g3', e2⟩ := ih (q + 1) (y + twoQ t x p q) (some (Value.int (if ahd t q = nI p then (1 : Int32) else 0))) (some (Value.int (if lns t q = nI p then (1 : Int32) else 0))) (by omega)
        refine ⟨g1', g2', g3', ?_⟩
        rw [← e2]
        rcases hx with rfl | rfl
        · rw [if_pos (show (0 : Int32) = 0 from rfl), if_neg (show ¬ (0 : Int32) = 1 by decide), twoQ0 h1]
        · rw [if_neg (show ¬ (1 : Int32) = 0 by decide), if_pos rfl, twoQ1 h2]
      · rw [if_neg h2, b01]
        obtain ⟨g1', g2', g3', e2⟩ := ih (q + 1) (y + twoQ t x p q) (some (Value.int (if ahd t q = nI p then (1 : Int32) else 0))) (some (Value.int 0)) (by omega)
        refine ⟨g1', g2', g3', ?_⟩
        rw [← e2]
        rcases hx with rfl | rfl
        · rw [if_pos rfl, twoQ0 h1]
        · rw [if_neg (show ¬ (1 : Int32) = 0 by decide), twoQ1n h2]
    · rw [if_neg h1, m_lensOf R V hp, zbI_some]
      by_cases h2 : lns t p = nI q
      · rw [if_pos h2, m_lensOf R V hq6, zbI_some, b01]
        obtain ⟨g1', g2', g3', e2⟩ := ih (q + 1) (y + twoQ t x p q) (some (Value.int 0)) (some (Value.int (if lns t q = nI p then (1 : Int32) else 0))) (by omega)
        refine ⟨g1', g2', g3', ?_⟩
        rw [← e2]
        rcases hx with rfl | rfl
        · rw [if_neg (show ¬ (0 : Int32) = 1 by decide), twoQ0n h1]
        · rw [if_pos rfl, twoQ1 h2]
      · rw [if_neg h2]
        obtain ⟨g1', g2', g3', e2⟩ := ih (q + 1) (y + twoQ t x p q) (some (Value.int 0)) (some (Value.int 0)) (by omega)
        refine ⟨g1', g2', g3', ?_⟩
        rw [← e2]
        rcases hx with rfl | rfl
        · rw [twoQ0n h1]
        · rw [twoQ1n h2]
theorem m_twoF (R : MR h t) (V : tV t) {x : Int32} (hx : x = 0 ∨ x = 1) : ∀ (m p : Nat) (y : Int32) (g1 g2 g3 : Option Value), p + m = tn t → zrn X 4 m_M_twos 26 [some (.ref 123), some (.int x), some (.int y), some (.int (nI p)), g1, g2, g3] [] h = some (some (.int (twoF t x m p y)), h) := by
  have hn := V.1
  intro m
  induction m with
  | zero =>
    intro p y g1 g2 g3 hp
    rw [b_M_twos_26, R.1, if_pos (nI_le (by omega) (by omega))]
    rfl
  | succ m ih =>
    intro p y g1 g2 g3 hp
    have hp6 : p < tn t := by omega
    have e : twoF t x (m + 1) p y = twoF t x m (p + 1) (y + twoP t x p) := rfl
    rw [b_M_twos_26, R.1, if_neg (nI_ge (by omega) (by omega)), nI_add1, e]
    obtain ⟨g1', g2', g3', e2⟩ := m_twoJ (X := X) R V hx hp6 m (p + 1) y g2 g3 (by omega)
    rw [e2, twoJ_P V hp6 m (by omega), ih _ _ _ _ _ (by omega)]
theorem rg2 {x : Int32} (h : rg x 2) : x = 0 ∨ x = 1 := by
  obtain ⟨j, hj, rfl⟩ := h
  have : j = 0 ∨ j = 1 := by omega
  rcases this with rfl | rfl
  · exact Or.inl rfl
  · exact Or.inr rfl
theorem ok_twos (hX : XP h w) (hM : MP h w) (V : WV w) {x : Int32} : OK2 X m_X_twos m_M_twos [.int x] h :=
  OK2.w01 hX hM V e_X_twos (fun _ => e_M_twos) (fun _ => s_twoF hH_2 hX.1.1 V.1.1 x (tn (wt w)) 0 0 none none (Nat.zero_add _)) (fun q H R => m_twoF R.1.1 V.1.1 (rg2 q) (tn (wt w)) 0 0 none none none (Nat.zero_add _))
/-! knows -/
/-- whom these see -/
def knoI (t : zT) (these : Int32) : Nat → Nat → Int32 → Int32 := fold fun p y => if these &&& bt p = 0 then y else y ||| (bz (ahd t p) ||| bz (lns t p))
def knoO (t : zT) : Nat → Int32 → Int32
  | 0, y => y
  | m + 1, y => knoO t m (y ||| knoI t y (tn t) 0 0)
theorem knoI_or (t : zT) (these : Int32) : ∀ (m p : Nat) (y z : Int32), knoI t these m p (z ||| y) = z ||| knoI t these m p y := by
  intro m
  induction m with
  | zero => intro p y z; rfl
  | succ m ih =>
    intro p y z
    have e : ∀ y, knoI t these (m + 1) p y = knoI t these m (p + 1) (if these &&& bt p = 0 then y else y ||| (bz (ahd t p) ||| bz (lns t p))) := fun _ => rfl
    rw [e, e]
    by_cases q : these &&& bt p = 0
    · rw [if_pos q, if_pos q, ih]
    · rw [if_neg q, if_neg q, Int32.or_assoc, ih]
theorem bz_rg {v : Int32} {y : Int32} (hy : rg y 64) (hv : v = -9 ∨ ∃ q, q < 6 ∧ v = nI q) : rg (y ||| bz v) 64 := by
  obtain ⟨j, hj, rfl⟩ := hy
  rcases hv with rfl | ⟨q, hq, rfl⟩
  · exact (bt_or j hj 0 (by decide)).2
  · rw [bz_nI hq]
    exact (bt_or j hj q hq).1
theorem knoI_rg {x : Int32} (hn : tn t ≤ 6) : ∀ (m p : Nat) (y : Int32), rg y 64 → rg (knoI t x m p y) 64 := by
  intro m
  induction m with
  | zero => intro p y hy; exact hy
  | succ m ih =>
    intro p y hy
    refine ih (p + 1) _ ?_
    have c : ∀ v, (v = -9 ∨ ∃ q, q < tn t ∧ v = nI q) → (v = -9 ∨ ∃ q, q < 6 ∧ v = nI q) := by
      rintro v (h | ⟨q, h1, h2⟩)
      · exact Or.inl h
      · exact Or.inr ⟨q, by omega, h2⟩
    dsimp only
    split
    · exact hy
    · rw [← Int32.or_assoc]
      exact bz_rg (bz_rg hy (c _ (ahd_rg t p))) (c _ (lns_rg t p))
theorem s_knoI {a : Nat} (H : isH a) (R : HR h a t) (V : tV t) (x : Int32) : ∀ (m p : Nat) (y : Int32), p + m = tn t → zrn X 3 m_H_seenBy 4 [some (.ref a), some (.int x), some (.int y), some (.int (nI p))] [] h = some (some (.int (knoI t x m p y)), h) := by
  have hn := V.1
  intro m
  induction m with
  | zero =>
    intro p y hp
    rw [b_H_seenBy_4 H, R.1, if_pos (nI_le (by omega) (by omega))]
    rfl
  | succ m ih =>
    intro p y hp
    have e : knoI t x (m + 1) p y = knoI t x m (p + 1) (if x &&& bt p = 0 then y else y ||| (bz (ahd t p) ||| bz (lns t p))) := rfl
    rw [b_H_seenBy_4 H, R.1, if_neg (nI_ge (by omega) (by omega)), s_bitOf (by omega), zbI_some, nI_add1, e]
    by_cases q : x &&& bt p = 0
    · rw [if_pos q, if_pos q, ih _ _ (by omega)]
    · rw [if_neg q, if_neg q, s_ahead H R V (by omega), zbI_some, s_bz (ahd_rg t p) hn, zbI_some, s_inLens H R V (by omega), zbI_some, s_bz (lns_rg t p) hn, zbI_some, ih _ _ (by omega)]
theorem s_seenBy {a : Nat} (H : isH a) (R : HR h a t) (V : tV t) {x : Int32} : zcf X m_H_seenBy [.ref a, .int x] h = some (some (.int (knoI t x (tn t) 0 0)), h) := by
  rw [e_H_seenBy H]
  exact s_knoI H R V x _ 0 0 (Nat.zero_add _)
theorem s_knoO (H : isH 2) (R : HR h 2 t) (V : tV t) (x : Int32) (e : Nat) (he : e < 7) : ∀ (m i : Nat) (y : Int32), i + m = e → zrn X 4 m_X_knows 49 [some (.ref 1), some (.int x), some (.int (nI e)), some (.int y), some (.int (nI i))] [] h = some (some (.int (knoO t m y)), h) := by
  intro m
  induction m with
  | zero =>
    intro i y hi
    rw [b_X_knows_49, if_pos (nI_le (by omega) (by omega))]
    rfl
  | succ m ih =>
    intro i y hi
    rw [b_X_knows_49, if_neg (nI_ge (by omega) (by omega)), s_seenBy H R V, zbI_some, nI_add1, ih _ _ (by omega)]
    rfl
theorem m_knoI (R : MR h t) (V : tV t) (x d f i : Int32) {y : Int32} (hy : rg y 64) : ∀ (m p : Nat) (z : Int32), p + m = tn t → ∃ g1 g2, zrn X 4 m_M_knows 56 [some (.ref 123), some (.int x), some (.int d), some (.int f), some (.int y), some (.int i), some (.int z), some (.int (nI p))] [] h = zrn X 4 m_M_knows 43 [some (.ref 123), some (.int x), some (.int d), some (.int f), some (.int (knoI t y m p z)), some (.int (i + 1)), g1, g2] [] h := by
  have hn := V.1
  intro m
  induction m with
  | zero =>
    intro p z hp
    refine ⟨some (.int z), some (.int (nI p)), ?_⟩
    rw [b_M_knows_56, R.1, if_pos (nI_le (by omega) (by omega))]
    rfl
  | succ m ih =>
    intro p z hp
    have e : knoI t y (m + 1) p z = knoI t y m (p + 1) (if y &&& bt p = 0 then z else z ||| (bz (ahd t p) ||| bz (lns t p))) := rfl
    rw [b_M_knows_56, R.1, if_neg (nI_ge (by omega) (by omega)), m_hasB hy (by omega), zbI_some, nI_add1, e]
    by_cases q : y &&& bt p = 0
    · rw [if_pos q, if_pos q, if_pos (show (0 : Int32) = 0 from rfl)]
      exact ih _ _ (by omega)
    · obtain ⟨g1, g2, e2⟩ := ih (p + 1) (z ||| (bz (ahd t p) ||| bz (lns t p))) (by omega)
      refine ⟨g1, g2, ?_⟩
      rw [if_neg q, if_neg q, if_neg (show ¬ (1 : Int32) = 0 by decide), ← e2, ← Int32.or_assoc, m_aheadOf R V (by omega), zbI_some]
      rcases ahd_rg t p with a | ⟨j, hj, a⟩
      · rw [a, if_neg (show ¬ (0 : Int32) ≤ -9 by decide), m_lensOf R V (by omega), zbI_some]
        rcases lns_rg t p with b | ⟨k, hk, b⟩
        · rw [b, if_neg (show ¬ (0 : Int32) ≤ -9 by decide)]
          rfl
        · rw [b, if_pos (nI_pos' (by omega)), m_lensOf R V (by omega), zbI_some, b, bz_nI (by omega)]
          rfl
      · rw [a, if_pos (nI_pos' (by omega)), m_aheadOf R V (by omega), zbI_some, m_lensOf R V (by omega), zbI_some, a, bz_nI (by omega)]
        rcases lns_rg t p with b | ⟨k, hk, b⟩
        · rw [b, if_neg (show ¬ (0 : Int32) ≤ -9 by decide)]
          rfl
        · rw [b, if_pos (nI_pos' (by omega)), m_lensOf R V (by omega), zbI_some, b, bz_nI (by omega)]
          rfl
theorem m_knoO (R : MR h t) (V : tV t) (x f : Int32) (e : Nat) (he : e < 7) : ∀ (m i : Nat) (y : Int32) (g1 g2 : Option Value), i + m = e → rg y 64 → zrn X 4 m_M_knows 43 [some (.ref 123), some (.int x), some (.int (nI e)), some (.int f), some (.int y), some (.int (nI i)), g1, g2] [] h = some (some (.int (knoO t m y)), h) := by
  have hn := V.1
  intro m
  induction m with
  | zero =>
    intro i y g1 g2 hi _
    rw [b_M_knows_43, if_pos (nI_le (by omega) (by omega))]
    rfl
  | succ m ih =>
    intro i y g1 g2 hi hy
    rw [b_M_knows_43, if_neg (nI_ge (by omega) (by omega))]
    obtain ⟨g1', g2', e2⟩ := m_knoI (X := X) R V x (nI e) f (nI i) hy (tn t) 0 y (Nat.zero_add _)
    rw [show zrn X 4 m_M_knows 56 [some (.ref 123), some (.int x), some (.int (nI e)), some (.int f), some (.int y), some (.int (nI i)), some (.int y), some (.int 0)] [] h = _ from e2, nI_add1]
    have e3 : knoI t y (tn t) 0 y = y ||| knoI t y (tn t) 0 0 := by
      have := knoI_or t y (tn t) 0 0 y
      rw [i_or0] at this
      exact this
    rw [ih _ _ _ _ (by omega) (knoI_rg hn _ _ _ hy), e3]
    rfl
theorem i_z : (0 : Int32).toInt = 0 := by decide
theorem rg_le {x : Int32} {n : Nat} (hn : n + 1 < 2 ^ 31) (h0 : 0 ≤ x) (h1 : x ≤ nI n) : rg x (n + 1) := by
  rw [rg_of hn]
  have a := (nI_le' (by omega)).mp h1
  have b := Int32.le_iff_toInt_le.mp h0
  rw [i_z] at b
  omega
theorem m_wrongN {x lo hi : Int32} : zcf X m_M_wrongNumber [.int x, .int lo, .int hi] h = some (some (.int (if lo ≤ x then (if x ≤ hi then 0 else -6) else -4)), h) := by
  rw [e_M_wrongNumber, zI_ite, zI_ite]
theorem ok_knows (hX : XP h w) (hM : MP h w) (V : WV w) {x y : Int32} : OK2 X m_X_knows m_M_knows [.int x, .int y] h := by
  have h6 : tn (wt w) ≤ 6 := V.1.1.1
  have RX : HR h 2 (wt w) := hX.1.1
  by_cases hx : rg x (tn (wt w))
  · obtain ⟨p, hp, rfl⟩ := hx
    have em : ∀ h1 H : zH, zup h1.1 123 7 0 = H.1 → h1.2 = H.2 → MP H w → zcf X m_M_knows [.ref 123, .int (nI p), .int y] h1 = (if 0 ≤ (if 0 ≤ y then (if y ≤ 6 then (0 : Int32) else -6) else -4) then zrn X 4 m_M_knows 43 [some (.ref 123), some (.int (nI p)), some (.int y), some (.int (if 0 ≤ y then (if y ≤ 6 then (0 : Int32) else -6) else -4)), some (.int (bt p)), some (.int 0), none, none] [] H else (zbI (zcf X m_M_refuse [.ref 123, .int (if 0 ≤ y then (if y ≤ 6 then (0 : Int32) else -6) else -4)] H) fun v8 h7 => (some (some (.int v8), h7)))) := by
      intro h1 H i1 i2 R
      rw [e_M_knows, i1, i2, m_isOne1 (h := (H.1, H.2)) R.1.1 h6 hp, zbI_some, if_neg (show ¬ (1 : Int32) = 0 by decide), m_wrongN, zbI_some]
      rfl
    have ex : zcf X m_X_knows [.ref 1, .int (nI p), .int y] h = (if 0 ≤ y then (if y ≤ 6 then zrn X 4 m_X_knows 49 [some (.ref 1), some (.int (nI p)), some (.int y), some (.int (bt p)), some (.int 0)] [] h else zcf X m_X_refuse [.ref 1, .int (-6)] h) else zcf X m_X_refuse [.ref 1, .int (-4)] h) := by
      rw [e_X_knows, s_has1 hH_2 RX h6 hp, zbI_some, if_neg (show ¬ (1 : Int32) = 0 by decide), zrx6, zrx4, s_bitOf (by omega), zbI_some]
    by_cases h0 : 0 ≤ y
    · by_cases h1 : y ≤ 6
      · obtain ⟨e, he, rfl⟩ : ∃ e, e < 7 ∧ y = nI e := by
          exact rg_le (n := 6) (by decide) h0 h1
        refine OK2.q0 (r := knoO (wt w) e (bt p)) hX hM V ?_ fun h1' H i1 i2 R => ?_
        · rw [ex, if_pos h0, if_pos h1]
          exact s_knoO hH_2 RX V.1.1 _ e he e 0 _ (Nat.zero_add _)
        · rw [em h1' H i1 i2 R, if_pos h0, if_pos h1, if_pos (by decide)]
          refine m_knoO R.1.1 V.1.1 _ _ e he e 0 _ _ _ (Nat.zero_add _) ?_
          have := (bt_or 0 (by decide) p (by omega)).1
          rw [show nI 0 = 0 from rfl, i_0or] at this
          exact this
      · refine OK2.no (x := -6) 6 hX hM V (by decide) (by decide) (by decide) ?_ fun h1' H i1 i2 R => ⟨H, ?_, R, FM.rf⟩
        · rw [ex, if_pos h0, if_neg h1]
        · rw [em h1' H i1 i2 R, if_pos h0, if_neg h1, if_neg (by decide), zrm6]
    · refine OK2.no (x := -4) 4 hX hM V (by decide) (by decide) (by decide) ?_ fun h1' H i1 i2 R => ⟨H, ?_, R, FM.rf⟩
      · rw [ex, if_neg h0]
      · rw [em h1' H i1 i2 R, if_neg h0, if_neg (by decide), zrm4]
  · exact OK2.no (x := -1) 1 hX hM V (by decide) (by decide) (by decide) (by rw [e_X_knows, s_has0 hH_2 RX h6 hx, zbI_some, if_pos rfl, zrx1]) fun h1' H i1 i2 R => ⟨H, by rw [e_M_knows, i1, i2, m_isOne0 (h := (H.1, H.2)) R.1.1 h6 hx, zbI_some, if_pos rfl, zrm1], R, FM.rf⟩
end z39
