/-! two -/
theorem bt_lsb : ∀ k, k < 32 → ∀ j, j < 32 → (bt k).toBitVec.getLsbD j = decide (k = j) := by decide +kernel
theorem and_bt {y : Int32} {j : Nat} (hj : j < 32) : y &&& bt j = 0 ↔ y.toBitVec.getLsbD j = false := by
  constructor
  · intro h
    have := congrArg (fun z : Int32 => z.toBitVec.getLsbD j) h
    simp only [Int32.toBitVec_and, BitVec.getLsbD_and, bt_lsb j hj j hj] at this
    simpa using this
  · intro h
    apply Int32.toBitVec_inj.mp
    apply BitVec.eq_of_getLsbD_eq
    intro i hi
    rw [Int32.toBitVec_and, BitVec.getLsbD_and, bt_lsb j hj i hi]
    by_cases e : j = i
    · rw [← e, h]; simp
    · simp [e]
theorem or_bt {y : Int32} {k j : Nat} (hk : k < 32) (hj : j < 32) : (y ||| bt k) &&& bt j = 0 ↔ y &&& bt j = 0 ∧ k ≠ j := by
  rw [and_bt hj, and_bt hj, Int32.toBitVec_or, BitVec.getLsbD_or, bt_lsb k hk j hj]
  by_cases e : k = j <;> simp [e]
def allF (P : Nat → Bool) : Nat → Nat → Bool → Bool
  | 0, _, b => b
  | m + 1, i, b => allF P m (i + 1) (if b = true then P i else false)
theorem allF_s {P : Nat → Bool} {m i : Nat} {b : Bool} : allF P (m + 1) i b = allF P m (i + 1) (if b = true then P i else false) := rfl
theorem allF_iff {P : Nat → Bool} : ∀ (m i : Nat) (b : Bool), allF P m i b = true ↔ b = true ∧ ∀ q, i ≤ q → q < i + m → P q = true := by
  intro m
  induction m with
  | zero => intro i b; exact ⟨fun h => ⟨h, fun q h1 h2 => by omega⟩, fun h => h.1⟩
  | succ m ih =>
    intro i b
    rw [allF_s, ih]
    cases b
    · rw [if_neg hFT]
      exact ⟨fun h => absurd h.1 hFT, fun h => absurd h.1 hFT⟩
    · rw [if_pos rfl]
      refine ⟨fun h => ⟨rfl, fun q h1 h2 => ?_⟩, fun h => ⟨h.2 i (Nat.le_refl _) (by omega), fun q h1 h2 => h.2 q (by omega) (by omega)⟩⟩
      by_cases e : q = i
      · rw [e]; exact h.1
      · exact h.2 q (by omega) (by omega)
/-- by these faces of p, and this step of q, p sees q -/
def twT (t : zT) (p q f s : Nat) : zT := wD (wC t q (stC t q (nI s))) p (nI f)
def twS (t : zT) (p q f s : Nat) : Bool := decide (ahd (twT t p q f s) p = nI q ∨ lns (twT t p q f s) p = nI q)
def twV (t : zT) (p q f s : Nat) : Int32 := if besA t q s = true then (if twS t p q f s = true then 1 else 0) else -1
def twA (t : zT) (p q f i : Nat) : Bool := !(besA t q i) || twS t p q f i
def twN (t : zT) (p q s i : Nat) : Bool := !(twS t p q i s)
/-- neither has better -/
def twR (t : zT) (p q x : Nat) : Bool := besA t q (x % 5) && (if twS t p q (x / 5) (x % 5) = true then allF (twA t p q (x / 5)) 5 0 true else allF (twN t p q (x % 5)) 4 0 true)
theorem allF_0 {P : Nat → Bool} : ∀ (m i : Nat), allF P m i false = false := by
  intro m
  induction m with
  | zero => intro i; rfl
  | succ m ih => intro i; rw [allF_s, if_neg hFT]; exact ih _
theorem allF_t {P : Nat → Bool} {m i : Nat} : allF P (m + 1) i true = if P i = true then allF P m (i + 1) true else false := by
  rw [allF_s, if_pos rfl]
  cases P i
  · rw [allF_0]; rfl
  · rfl
def selF (G : Nat → Bool) : Nat → Nat → Int32
  | 0, _ => -9
  | m + 1, x => if G x = true then 10 * nI (x / 5) + nI (x % 5) else selF G m (x + 1)
theorem selF_s {G : Nat → Bool} {m x : Nat} : selF G (m + 1) x = if G x = true then 10 * nI (x / 5) + nI (x % 5) else selF G m (x + 1) := rfl
theorem d20 : ∀ m, m < 20 → nI m / 5 = nI (m / 5) ∧ zrem (nI m) 5 = nI (m % 5) := by decide +kernel
theorem d45 : ∀ f, f < 4 → ∀ s, s < 5 → nI f * 5 + nI s = nI (5 * f + s) ∧ 5 * nI f + nI s = nI (5 * f + s) := by decide +kernel
section z57
variable {X : zX} {h h0 : zH} {w : zW} {mx mm : zM} {as : List Value} {t : zT} {a : Nat}
theorem twT_V (V : tV t) {p q f s : Nat} (hq : q < tn t) (hs : s < 5) (hf : f < 4) (hb : besA t q s = true) : tV (twT t p q f s) := by
  have : rg (stC t q (nI s)) 36 := by
    rcases stC_rg V hq hs with z | z
    · exact absurd z (of_decide_eq_true hb)
    · exact z
  exact (V.wC this).wD ⟨f, hf, rfl⟩
theorem s_pairBit {f s : Nat} (hf : f < 4) (hs : s < 5) : zcf X m_X_pairBit [.int (nI f), .int (nI s)] h = some (some (.int (bt (5 * f + s))), h) := by
  rw [e_X_pairBit, (d45 f hf s hs).1, s_bitOf (by omega), zbI_some]
/-- the faces of one step -/
theorem s_twF {p q s : Nat} (V : tV t) (hp : p < tn t) (hq : q < tn t) (hs : s < 5) (hb : besA t q s = true) : ∀ (m f : Nat) (t' : zT) (h : zH) (y : Int32) (g7 : Option Value), f + m = 4 → MD h0 t' h → tn t' = tn t → (∀ v, wD t' p v = wD (wC t q (stC t q (nI s))) p v) → ∃ h' y' t2 g7', zrn X 3 m_X_stepsSeenByFaces 53 [some (.ref 1), some (.int (nI p)), some (.int (nI q)), some (.int y), some (.int (nI s)), some (.int (stC t q (nI s))), some (.int (nI f)), g7] [] h = zrn X 3 m_X_stepsSeenByFaces 16 [some (.ref 1), some (.int (nI p)), some (.int (nI q)), some (.int y'), some (.int (nI (s + 1))), some (.int (stC t q (nI s))), some (.int 4), g7'] [] h' ∧ MD h0 t2 h' ∧ tn t2 = tn t ∧ (∀ v, wD t2 p v = wD (wC t q (stC t q (nI s))) p v) ∧ ∀ j, j < 20 → (y' &&& bt j = 0 ↔ y &&& bt j = 0 ∧ ∀ f', f ≤ f' → f' < 4 → 5 * f' + s = j → ¬ twS t p q f' s = true) := by
  have h6 := V.1
  intro m
  induction m with
  | zero =>
    intro f t' h y g7 hf D ht hw
    have e4 : f = 4 := by omega
    subst e4
    refine ⟨h, y, t', g7, ?_, D, ht, hw, fun j _ => ⟨fun z => ⟨z, fun f' h1 h2 => by omega⟩, fun z => z.1⟩⟩
    rw [b_X_stepsSeenByFaces_53, if_pos (show (4 : Int32) ≤ nI 4 by decide), nI_add1]
    rfl
  | succ m ih =>
    intro f t' h y g7 hf D ht hw
    have V1 : tV (twT t p q f s) := twT_V V hq hs (by omega) hb
    have D1 : MD h0 (twT t p q f s) (zup h.1 (8 + 4) p (nI f), h.2) := D.go (by have := HR.uD (p := p) (v := nI f) D.1; rw [hw] at this; exact this) (FM.up (by unfold pXq; decide)) V1
    have hp1 : p < tn (twT t p q f s) := hp
    have nx := fun y g7 => ih (f + 1) (twT t p q f s) (zup h.1 (8 + 4) p (nI f), h.2) y g7 (by omega) D1 rfl (fun v => wD_wD)
    have ib := fun (y : Int32) j (hj : j < 20) => @or_bt y (5 * f + s) j (by omega) (by omega)
    have yes : twS t p q f s = true → ∀ g7, ∃ h' y' t2 g7', zrn X 3 m_X_stepsSeenByFaces 53 [some (.ref 1), some (.int (nI p)), some (.int (nI q)), some (.int (y ||| bt (5 * f + s))), some (.int (nI s)), some (.int (stC t q (nI s))), some (.int (nI (f + 1))), g7] [] (zup h.1 (8 + 4) p (nI f), h.2) = zrn X 3 m_X_stepsSeenByFaces 16 [some (.ref 1), some (.int (nI p)), some (.int (nI q)), some (.int y'), some (.int (nI (s + 1))), some (.int (stC t q (nI s))), some (.int 4), g7'] [] h' ∧ MD h0 t2 h' ∧ tn t2 = tn t ∧ (∀ v, wD t2 p v = wD (wC t q (stC t q (nI s))) p v) ∧ ∀ j, j < 20 → (y' &&& bt j = 0 ↔ y &&& bt j = 0 ∧ ∀ f', f ≤ f' → f' < 4 → 5 * f' + s = j → ¬ twS t p q f' s = true) := by
      intro hS g7
      obtain ⟨h', y', t2, g7', a1, a2, a3, a4, a5⟩ := nx (y ||| bt (5 * f + s)) g7
      refine ⟨h', y', t2, g7', a1, a2, a3, a4, fun j hj => ?_⟩
      rw [a5 j hj, ib y j hj]
      constructor
      · rintro ⟨⟨b1, b2⟩, b3⟩
        refine ⟨b1, fun f' c1 c2 c3 => ?_⟩
        by_cases e : f' = f
        · exact absurd (by rw [← c3, e]) b2
        · exact b3 f' (by omega) c2 c3
      · rintro ⟨b1, b2⟩
        exact ⟨⟨b1, fun e => b2 f (Nat.le_refl _) (by omega) e hS⟩, fun f' c1 c2 c3 => b2 f' (by omega) c2 c3⟩
    have no : ¬ twS t p q f s = true → ∀ g7, ∃ h' y' t2 g7', zrn X 3 m_X_stepsSeenByFaces 53 [some (.ref 1), some (.int (nI p)), some (.int (nI q)), some (.int (y ||| 0)), some (.int (nI s)), some (.int (stC t q (nI s))), some (.int (nI (f + 1))), g7] [] (zup h.1 (8 + 4) p (nI f), h.2) = zrn X 3 m_X_stepsSeenByFaces 16 [some (.ref 1), some (.int (nI p)), some (.int (nI q)), some (.int y'), some (.int (nI (s + 1))), some (.int (stC t q (nI s))), some (.int 4), g7'] [] h' ∧ MD h0 t2 h' ∧ tn t2 = tn t ∧ (∀ v, wD t2 p v = wD (wC t q (stC t q (nI s))) p v) ∧ ∀ j, j < 20 → (y' &&& bt j = 0 ↔ y &&& bt j = 0 ∧ ∀ f', f ≤ f' → f' < 4 → 5 * f' + s = j → ¬ twS t p q f' s = true) := by
      intro hS g7
      rw [i_or0]
      obtain ⟨h', y', t2, g7', a1, a2, a3, a4, a5⟩ := nx y g7
      refine ⟨h', y', t2, g7', a1, a2, a3, a4, fun j hj => ?_⟩
      rw [a5 j hj]
      constructor
      · rintro ⟨b1, b3⟩
        refine ⟨b1, fun f' c1 c2 c3 => ?_⟩
        by_cases e : f' = f
        · rw [e]; exact hS
        · exact b3 f' (by omega) c2 c3
      · rintro ⟨b1, b2⟩
        exact ⟨b1, fun f' c1 c2 c3 => b2 f' (by omega) c2 c3⟩
    rw [b_X_stepsSeenByFaces_53, if_neg (show ¬ (4 : Int32) ≤ nI f from nI_ge (b := 4) (by omega) (by omega)), s_face hH_8 (by omega), zbV_some, s_ahead hH_8 D1.1 V1 hp1, zbI_some, s_pairBit (by omega) hs, zbI_some, s_inLens hH_8 D1.1 V1 hp1, zbI_some, s_pairBit (by omega) hs, zbI_some, nI_add1]
    by_cases al : ahd (twT t p q f s) p = nI q
    · rw [if_pos al]
      exact yes (by unfold twS; exact decide_eq_true (Or.inl al)) _
    · rw [if_neg al]
      by_cases l : lns (twT t p q f s) p = nI q
      · rw [if_pos l, if_neg (show ¬ (1 : Int32) = 0 by decide)]
        exact yes (by unfold twS; exact decide_eq_true (Or.inr l)) _
      · rw [if_neg l, if_pos (show (0 : Int32) = 0 from rfl)]
        exact no (by unfold twS; simp [al, l]) _
theorem s_twG {p q : Nat} (hX0 : HR h0 2 t) (V : tV t) (hp : p < tn t) (hq : q < tn t) : ∀ (m s : Nat) (t' : zT) (h : zH) (y : Int32) (g5 g6 g7 : Option Value), s + m = 5 → MD h0 t' h → tn t' = tn t → (∀ c v, wD (wC t' q c) p v = wD (wC t q c) p v) → ∃ h' y', zrn X 3 m_X_stepsSeenByFaces 16 [some (.ref 1), some (.int (nI p)), some (.int (nI q)), some (.int y), some (.int (nI s)), g5, g6, g7] [] h = some (some (.int y'), h') ∧ FM pXq h0 h' ∧ ∀ f' s', f' < 4 → s' < 5 → (y' &&& bt (5 * f' + s') = 0 ↔ y &&& bt (5 * f' + s') = 0 ∧ (s ≤ s' → besA t q s' = true → ¬ twS t p q f' s' = true)) := by
  have h6 := V.1
  intro m
  induction m with
  | zero =>
    intro s t' h y g5 g6 g7 hs D _ _
    refine ⟨h, y, ?_, D.2.1, fun f' s' h1 h2 => ⟨fun z => ⟨z, fun h3 => by omega⟩, fun z => z.1⟩⟩
    rw [b_X_stepsSeenByFaces_16, if_pos (show (4 : Int32) < nI s from nI_lt (a := 4) (by omega) (by omega))]
  | succ m ih =>
    intro s t' h y g5 g6 g7 hs D ht hw
    have X2 : HR h 2 t := hX0.of fun b j h1 h2 => D.2.1 b j (by unfold pXq; omega)
    rw [b_X_stepsSeenByFaces_16, if_neg (show ¬ (4 : Int32) < nI s from nI_nlt (a := 4) (by omega) (by omega)), s_cellOfStep hH_2 X2 V hq, zbI_some, nI_add1]
    by_cases fr : stC t q (nI s) = -1
    · rw [if_pos fr]
      obtain ⟨h', y', a1, a2, a3⟩ := ih (s + 1) t' h y (some (.int (stC t q (nI s)))) g6 g7 (by omega) D ht hw
      refine ⟨h', y', a1, a2, fun f' s' h1 h2 => ?_⟩
      rw [a3 f' s' h1 h2]
      refine ⟨fun z => ⟨z.1, fun h3 h4 => ?_⟩, fun z => ⟨z.1, fun h3 h4 => z.2 (by omega) h4⟩⟩
      by_cases e : s' = s
      · rw [e] at h4
        exact absurd fr (of_decide_eq_true h4)
      · exact z.2 (by omega) h4
    · have hb : besA t q s = true := by unfold besA; exact decide_eq_true fr
      have cr : rg (stC t q (nI s)) 36 := by
        rcases stC_rg V hq (s := s) (by omega) with z | z
        · exact absurd z fr
        · exact z
      have V1 : tV (wC t' q (stC t q (nI s))) := D.2.2.wC cr
      have D1 : MD h0 (wC t' q (stC t q (nI s))) (zup h.1 (8 + 3) q (stC t q (nI s)), h.2) := D.go (HR.uC D.1) (FM.up (by unfold pXq; decide)) V1
      obtain ⟨h1, y1, t2, g7', b1, b2, b3, b4, b5⟩ := s_twF (X := X) V hp hq (show s < 5 by omega) hb 4 0 _ _ y g7 rfl D1 ht (fun v => hw _ v)
      obtain ⟨h', y', a1, a2, a3⟩ := ih (s + 1) t2 h1 y1 (some (.int (stC t q (nI s)))) (some (.int 4)) g7' (by omega) b2 b3 (fun c v => by
        have := congrArg (fun u => wD (wC u q c) p v) (b4 v)
        have e1 : wD (wC (wD t2 p v) q c) p v = wD (wC t2 q c) p v := by
          show wD (wD (wC t2 q c) p v) p v = _
          rw [wD_wD]
        have e2 : wD (wC (wD (wC t q (stC t q (nI s))) p v) q c) p v = wD (wC t q c) p v := by
          show wD (wD (wC (wC t q (stC t q (nI s))) q c) p v) p v = _
          rw [wD_wD, wC_wC]
        rw [e1, e2] at this
        exact this)
      refine ⟨h', y', ?_, a2, fun f' s' h1 h2 => ?_⟩
      · rw [if_neg fr, s_place hH_8 (by omega), zbV_some, show zrn X 3 m_X_stepsSeenByFaces 53 [some (.ref 1), some (.int (nI p)), some (.int (nI q)), some (.int y), some (.int (nI s)), some (.int (stC t q (nI s))), some (.int 0), g7] [] _ = _ from b1]
        exact a1
      · rw [a3 f' s' h1 h2, b5 _ (by omega)]
        constructor
        · rintro ⟨⟨c1, c2⟩, c3⟩
          refine ⟨c1, fun h3 h4 => ?_⟩
          by_cases e : s' = s
          · rw [e]
            exact c2 f' (Nat.zero_le _) h1 (by omega)
          · exact c3 (by omega) h4
        · rintro ⟨c1, c2⟩
          refine ⟨⟨c1, fun f2 d1 d2 d3 => ?_⟩, fun h3 h4 => c2 (by omega) h4⟩
          have e1 : s' = s := by omega
          have e2 : f2 = f' := by omega
          rw [e2, ← e1]
          exact c2 (by omega) (by rw [e1]; exact hb)
/-- the steps that can be taken -/
theorem s_twA {p q : Nat} (R : HR h 2 t) (V : tV t) (hq : q < tn t) : ∀ (m s : Nat) (y : Int32), s + m = 5 → ∃ y', zrn X 4 m_X_two 20 [some (.ref 1), some (.int (nI p)), some (.int (nI q)), some (.int y), some (.int (nI s)), none, none] [] h = (zbI (zcf X m_X_stepsSeenByFaces [.ref 1, .int (nI p), .int (nI q)] h) fun v2 h1 => zrn X 4 m_X_two 69 [some (.ref 1), some (.int (nI p)), some (.int (nI q)), some (.int y'), some (.int v2), some (.int 0), none] [] h1) ∧ ∀ j, j < 5 → (y' &&& bt j = 0 ↔ y &&& bt j = 0 ∧ (s ≤ j → ¬ besA t q j = true)) := by
  have h6 := V.1
  intro m
  induction m with
  | zero =>
    intro s y hs
    refine ⟨y, ?_, fun j hj => ⟨fun z => ⟨z, fun h3 => by omega⟩, fun z => z.1⟩⟩
    rw [b_X_two_20, if_pos (show (4 : Int32) < nI s from nI_lt (a := 4) (by omega) (by omega))]
  | succ m ih =>
    intro s y hs
    rw [b_X_two_20, if_neg (show ¬ (4 : Int32) < nI s from nI_nlt (a := 4) (by omega) (by omega)), s_cellOfStep hH_2 R V hq, zbI_some, nI_add1]
    by_cases fr : stC t q (nI s) = -1
    · rw [if_pos fr, i_or0]
      obtain ⟨y', a1, a2⟩ := ih (s + 1) y (by omega)
      refine ⟨y', a1, fun j hj => ?_⟩
      rw [a2 j hj]
      refine ⟨fun z => ⟨z.1, fun h3 h4 => ?_⟩, fun z => ⟨z.1, fun h3 h4 => z.2 (by omega) h4⟩⟩
      by_cases e : j = s
      · rw [e] at h4
        exact absurd fr (of_decide_eq_true h4)
      · exact z.2 (by omega) h4
    · have hb : besA t q s = true := by unfold besA; exact decide_eq_true fr
      rw [if_neg fr, s_bitOf (by omega), zbI_some]
      obtain ⟨y', a1, a2⟩ := ih (s + 1) (y ||| bt s) (by omega)
      refine ⟨y', a1, fun j hj => ?_⟩
      rw [a2 j hj, or_bt (by omega) (by omega)]
      constructor
      · rintro ⟨⟨c1, c2⟩, c3⟩
        refine ⟨c1, fun h3 h4 => c3 (by omega) h4⟩
      · rintro ⟨c1, c2⟩
        exact ⟨⟨c1, fun e => c2 (by omega) (by rw [← e]; exact hb)⟩, fun h3 h4 => c2 (by omega) h4⟩
/-- what the bits say -/
def twB (t : zT) (p q : Nat) (seen steps : Int32) : Prop := (∀ f s, f < 4 → s < 5 → (seen &&& bt (5 * f + s) = 0 ↔ (besA t q s = true → ¬ twS t p q f s = true))) ∧ ∀ s, s < 5 → (steps &&& bt s = 0 ↔ ¬ besA t q s = true)
theorem s_nbA {p q f s : Nat} {seen steps : Int32} (B : twB t p q seen steps) (hf : f < 4) : ∀ (m i : Nat), i + m = 5 → zrn X 2 m_X_neitherHasBetter 13 [some (.int seen), some (.int steps), some (.int (nI f)), some (.int (nI s)), some (.int (nI i))] [] h = some (some (.int (if allF (twA t p q f) m i true = true then 1 else 0)), h) := by
  intro m
  induction m with
  | zero =>
    intro i hi
    rw [b_X_neitherHasBetter_13, if_pos (show (4 : Int32) < nI i from nI_lt (a := 4) (by omega) (by omega))]
    rfl
  | succ m ih =>
    intro i hi
    rw [b_X_neitherHasBetter_13, if_neg (show ¬ (4 : Int32) < nI i from nI_nlt (a := 4) (by omega) (by omega)), s_bitOf (by omega), zbI_some, nI_add1, s_pairBit hf (by omega), zbI_some, ih (i + 1) (by omega), allF_t]
    by_cases z : steps &&& bt i = 0
    · have nb := (B.2 i (by omega)).mp z
      rw [if_pos z, if_pos (show twA t p q f i = true by unfold twA; simp [nb])]
    · rw [if_neg z]
      have nb : besA t q i = true := Decidable.byContradiction fun k => z ((B.2 i (by omega)).mpr k)
      by_cases y : seen &&& bt (5 * f + i) = 0
      · have := (B.1 f i hf (by omega)).mp y nb
        rw [if_pos y, if_neg (show ¬ twA t p q f i = true by unfold twA; simp [nb, this])]
        rfl
      · have hs : twS t p q f i = true := Decidable.byContradiction fun k => y ((B.1 f i hf (by omega)).mpr fun _ => k)
        rw [if_neg y, if_pos (show twA t p q f i = true by unfold twA; simp [hs])]
theorem s_nbB {p q f s : Nat} {seen steps : Int32} (B : twB t p q seen steps) (hs : s < 5) (hb : besA t q s = true) : ∀ (m i : Nat), i + m = 4 → zrn X 2 m_X_neitherHasBetter 53 [some (.int seen), some (.int steps), some (.int (nI f)), some (.int (nI s)), some (.int (nI i))] [] h = some (some (.int (if allF (twN t p q s) m i true = true then 1 else 0)), h) := by
  intro m
  induction m with
  | zero =>
    intro i hi
    rw [b_X_neitherHasBetter_53, if_pos (show (4 : Int32) ≤ nI i from nI_le (a := 4) (by omega) (by omega))]
    rfl
  | succ m ih =>
    intro i hi
    rw [b_X_neitherHasBetter_53, if_neg (show ¬ (4 : Int32) ≤ nI i from nI_ge (b := 4) (by omega) (by omega)), s_pairBit (by omega) hs, zbI_some, nI_add1, ih (i + 1) (by omega), allF_t]
    by_cases y : seen &&& bt (5 * i + s) = 0
    · have n := (B.1 i s (by omega) hs).mp y hb
      rw [if_pos y, if_pos (show twN t p q s i = true by unfold twN; simp [n])]
    · have n : twS t p q i s = true := Decidable.byContradiction fun k => y ((B.1 i s (by omega) hs).mpr fun _ => k)
      rw [if_neg y, if_neg (show ¬ twN t p q s i = true by unfold twN; simp [n])]
      rfl
theorem s_nb {p q f s : Nat} {seen steps : Int32} (B : twB t p q seen steps) (hf : f < 4) (hs : s < 5) (hb : besA t q s = true) : zcf X m_X_neitherHasBetter [.int seen, .int steps, .int (nI f), .int (nI s)] h = some (some (.int (if twR t p q (5 * f + s) = true then 1 else 0)), h) := by
  have e1 : (5 * f + s) / 5 = f := by omega
  have e2 : (5 * f + s) % 5 = s := by omega
  have er : twR t p q (5 * f + s) = if twS t p q f s = true then allF (twA t p q f) 5 0 true else allF (twN t p q s) 4 0 true := by
    unfold twR
    rw [e1, e2, hb, Bool.true_and]
  rw [e_X_neitherHasBetter, s_pairBit hf hs, zbI_some, er]
  by_cases y : seen &&& bt (5 * f + s) = 0
  · have n := (B.1 f s hf hs).mp y hb
    rw [if_pos y, if_neg n]
    exact s_nbB B hs hb 4 0 rfl
  · have n : twS t p q f s = true := Decidable.byContradiction fun k => y ((B.1 f s hf hs).mpr fun _ => k)
    rw [if_neg y, if_pos n]
    exact s_nbA B hf 5 0 rfl
theorem twR_av {p q x : Nat} (h : twR t p q x = true) : besA t q (x % 5) = true := by
  unfold twR at h
  exact (Bool.and_eq_true_iff.mp h).1
theorem s_twS {p q : Nat} {seen steps : Int32} (B : twB t p q seen steps) : ∀ (m f s : Nat), 5 * f + s + (m + 1) = 20 → s < 5 → zrn X 4 m_X_two 78 [some (.ref 1), some (.int (nI p)), some (.int (nI q)), some (.int steps), some (.int seen), some (.int (nI f)), some (.int (nI s))] [] h = some (some (.int (selF (twR t p q) (m + 1) (5 * f + s))), h) := by
  intro m
  induction m with
  | zero =>
    intro f s hm hs
    have e1 : (5 * f + s) / 5 = f := by omega
    have e2 : (5 * f + s) % 5 = s := by omega
    have tail : zrn X 4 m_X_two 78 [some (.ref 1), some (.int (nI p)), some (.int (nI q)), some (.int steps), some (.int seen), some (.int (nI f)), some (.int (nI (s + 1)))] [] h = some (some (.int (-9)), h) := by
      rw [b_X_two_78, if_pos (show (4 : Int32) < nI (s + 1) from nI_lt (a := 4) (by omega) (by omega)), b_X_two_69, nI_add1, if_pos (show (4 : Int32) ≤ nI (f + 1) from nI_le (a := 4) (by omega) (by omega))]
    rw [b_X_two_78, if_neg (show ¬ (4 : Int32) < nI s from nI_nlt (a := 4) (by omega) (by omega)), s_bitOf (by omega), zbI_some, nI_add1, selF_s (x := 5 * f + s), e1, e2]
    by_cases z : steps &&& bt s = 0
    · have nb := (B.2 s hs).mp z
      rw [if_pos z, tail, if_neg (fun k => nb (by have := twR_av k; rw [e2] at this; exact this))]
      rfl
    · have nb : besA t q s = true := Decidable.byContradiction fun k => z ((B.2 s hs).mpr k)
      rw [if_neg z, s_nb B (by omega) hs nb, zbI_some]
      by_cases r : twR t p q (5 * f + s) = true
      · rw [if_pos r, if_pos r, if_neg (show ¬ (1 : Int32) = 0 by decide)]
      · rw [if_neg r, if_neg r, if_pos (show (0 : Int32) = 0 from rfl)]
        exact tail
  | succ m ih =>
    intro f s hm hs
    have e1 : (5 * f + s) / 5 = f := by omega
    have e2 : (5 * f + s) % 5 = s := by omega
    have tail : zrn X 4 m_X_two 78 [some (.ref 1), some (.int (nI p)), some (.int (nI q)), some (.int steps), some (.int seen), some (.int (nI f)), some (.int (nI (s + 1)))] [] h = some (some (.int (selF (twR t p q) (m + 1) (5 * f + s + 1))), h) := by
      by_cases l : s = 4
      · rw [b_X_two_78, if_pos (show (4 : Int32) < nI (s + 1) from nI_lt (a := 4) (by omega) (by omega)), b_X_two_69, nI_add1, if_neg (show ¬ (4 : Int32) ≤ nI (f + 1) from nI_ge (b := 4) (by omega) (by omega)), show 5 * f + s + 1 = 5 * (f + 1) + 0 by omega]
        exact ih (f + 1) 0 (by omega) (by decide)
      · exact ih f (s + 1) (by omega) (by omega)
    rw [b_X_two_78, if_neg (show ¬ (4 : Int32) < nI s from nI_nlt (a := 4) (by omega) (by omega)), s_bitOf (by omega), zbI_some, nI_add1, selF_s (x := 5 * f + s), e1, e2]
    by_cases z : steps &&& bt s = 0
    · have nb := (B.2 s hs).mp z
      rw [if_pos z, tail, if_neg (fun k => nb (by have := twR_av k; rw [e2] at this; exact this))]
    · have nb : besA t q s = true := Decidable.byContradiction fun k => z ((B.2 s hs).mpr k)
      rw [if_neg z, s_nb B (by omega) hs nb, zbI_some]
      by_cases r : twR t p q (5 * f + s) = true
      · rw [if_pos r, if_pos r, if_neg (show ¬ (1 : Int32) = 0 by decide)]
      · rw [if_neg r, if_neg r, if_pos (show (0 : Int32) = 0 from rfl)]
        exact tail
end z57
