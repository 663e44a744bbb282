/-! still, walks, behind -/
def stiP (t : zT) : Bool := decide ((night t (-9)).2.2.1 = 0)
/-- whether these numbers are as they were -/
def cmpF (k : Nat → Int32) (t : zT) : Nat → Nat → Bool → Bool
  | 0, _, b => b
  | m + 1, i, b => cmpF k t m (i + 1) (if b = true then decide (k i = 4 * tC t i + tD t i) else false)
theorem cmpF_s {k : Nat → Int32} {t : zT} {m i : Nat} {b : Bool} : cmpF k t (m + 1) i b = cmpF k t m (i + 1) (if b = true then decide (k i = 4 * tC t i + tD t i) else false) := rfl
theorem cmpF_iff {k : Nat → Int32} {t : zT} : ∀ (m i : Nat) (b : Bool), cmpF k t m i b = true ↔ b = true ∧ ∀ q, i ≤ q → q < i + m → k q = 4 * tC t q + tD t q := by
  intro m
  induction m with
  | zero => intro i b; exact ⟨fun h => ⟨h, fun q h1 h2 => by omega⟩, fun h => h.1⟩
  | succ m ih =>
    intro i b
    rw [cmpF_s, ih]
    cases b
    · rw [if_neg hFT]
      exact ⟨fun h => absurd h.1 hFT, fun h => absurd h.1 hFT⟩
    · rw [if_pos rfl, decide_eq_true_iff]
      refine ⟨fun h => ⟨rfl, fun q h1 h2 => ?_⟩, fun h => ⟨h.2 i (Nat.le_refl _) (by omega), fun q h1 h2 => h.2 q (by omega) (by omega)⟩⟩
      by_cases e : q = i
      · rw [e]; exact h.1
      · exact h.2 q (by omega) (by omega)
def walF (p : Nat) : Nat → zT → Int32 → Int32 → Int32 × Int32
  | 0, _, a, b => (a, b)
  | m + 1, t, a, b => walF p m (night t (-9)).1 (a + (if tC (night t (-9)).1 p = tC t p then 0 else 1)) (b + (if tD (night t (-9)).1 p = tD t p then 0 else 1))
theorem walF_s {p m : Nat} {t : zT} {a b : Int32} : walF p (m + 1) t a b = walF p m (night t (-9)).1 (a + (if tC (night t (-9)).1 p = tC t p then 0 else 1)) (b + (if tD (night t (-9)).1 p = tD t p then 0 else 1)) := rfl
/-- what is asked of one behind so many nights -/
def behW (t : zT) (p : Nat) (y : Int32) : Int32 := if y = 0 then tC t p else (if y = 1 then tD t p else (if y = 2 then tS t p else (if y = 3 then ahd t p else (if y = 4 then lns t p else wat t (nI p)))))
section z50
variable {X : zX} {h h0 : zH} {w : zW} {mx mm : zM} {as : List Value} {t : zT} {a : Nat}
theorem s_cellOf (H : isH a) (R : HR h a t) (hn : tn t ≤ 6) {p : Nat} (hp : p < tn t) : zcf X m_H_cellOf [.ref a, .int (nI p)] h = some (some (.int (tC t p)), h) := by
  rw [e_H_cellOf H, s_celOf H R hn hp, zbI_some]
theorem s_facesOf (H : isH a) (R : HR h a t) (hn : tn t ≤ 6) {p : Nat} (hp : p < tn t) : zcf X m_H_facesOf [.ref a, .int (nI p)] h = some (some (.int (tD t p)), h) := by
  rw [e_H_facesOf H, s_facOf H R hn hp, zbI_some]
theorem s_startsOf (H : isH a) (R : HR h a t) (hn : tn t ≤ 6) {p : Nat} (hp : p < tn t) : zcf X m_H_startsOf [.ref a, .int (nI p)] h = some (some (.int (tS t p)), h) := by
  rw [e_H_startsOf H, s_staOf H R hn hp, zbI_some]
theorem s_wrongNights (hX : XP h w) (V : WV w) {x y : Int32} : (∀ p k, p < tn (wt w) → k < 61 → x = nI p → y = nI k → zcf X m_X_wrongNights [.ref 1, .int x, .int y] h = some (some (.int 0), h)) ∧ (¬ rg x (tn (wt w)) → zcf X m_X_wrongNights [.ref 1, .int x, .int y] h = some (some (.int (-1)), h)) ∧ (rg x (tn (wt w)) → ¬ 0 ≤ y → zcf X m_X_wrongNights [.ref 1, .int x, .int y] h = some (some (.int (-4)), h)) ∧ (rg x (tn (wt w)) → 0 ≤ y → ¬ y ≤ 60 → zcf X m_X_wrongNights [.ref 1, .int x, .int y] h = some (some (.int (-6)), h)) := by
  have h6 : tn (wt w) ≤ 6 := V.1.1.1
  refine ⟨?_, ?_, ?_, ?_⟩
  · rintro p k hp hk rfl rfl
    rw [e_X_wrongNights, s_has1 hH_2 hX.1.1 h6 hp, zbI_some, if_neg (show ¬ (1 : Int32) = 0 by decide), if_pos (show (0 : Int32) ≤ nI k from nI_le (a := 0) (Nat.zero_le _) (by omega)), if_pos (show nI k ≤ (60 : Int32) from nI_le (b := 60) (by omega) (by decide))]
  · intro hx
    rw [e_X_wrongNights, s_has0 hH_2 hX.1.1 h6 hx, zbI_some, if_pos (show (0 : Int32) = 0 from rfl)]
  · rintro ⟨p, hp, rfl⟩ hy
    rw [e_X_wrongNights, s_has1 hH_2 hX.1.1 h6 hp, zbI_some, if_neg (show ¬ (1 : Int32) = 0 by decide), if_neg hy]
  · rintro ⟨p, hp, rfl⟩ h0 hy
    rw [e_X_wrongNights, s_has1 hH_2 hX.1.1 h6 hp, zbI_some, if_neg (show ¬ (1 : Int32) = 0 by decide), if_pos h0, if_neg hy]
/-- one, nights and a number of what are told: both refuse alike -/
theorem OK2.wn {x n y : Int32} {last : Nat} (hl : last < 10) (hX : XP h w) (hM : MP h w) (V : WV w) (A : Int32 → zH → Option (Option Value × zH)) (B B' : Int32 → zH → Option (Option Value × zH)) (ex : zcf X mx [.ref 1, .int x, .int n, .int y] h = (zbI (zcf X m_X_wrongNights [.ref 1, .int x, .int n] h) fun v2 h1 => (if v2 = 0 then (if y < 0 then (zbI (zcf X m_X_refuse [.ref 1, .int (-2)] h1) fun v4 h3 => (some (some (.int v4), h3))) else (if y ≤ nI last then A v2 h1 else (zbI (zcf X m_X_refuse [.ref 1, .int (-2)] h1) fun v7 h6 => (some (some (.int v7), h6))))) else (zbI (zcf X m_X_refuse [.ref 1, .int v2] h1) fun v9 h8 => (some (some (.int v9), h8))))))
    (em : ∀ h : zH, zcf X mm [.ref 123, .int x, .int n, .int y] h = (zbI (zcf X m_M_isOne [.ref 123, .int x] ((zup h.1 123 7 0), h.2)) fun v2 h1 => (if v2 = 0 then (zbI (zcf X m_M_wrongBit [.int (-1), .int y, .int (nI last)] h1) fun v4 h3 => (if 0 ≤ v4 then B' v4 h3 else (zbI (zcf X m_M_refuse [.ref 123, .int v4] h3) fun v7 h6 => (some (some (.int v7), h6))))) else (zbI (zcf X m_M_wrongNumber [.int n, .int 0, .int 60] h1) fun v9 h8 => (zbI (zcf X m_M_wrongBit [.int v9, .int y, .int (nI last)] h8) fun v11 h10 => (if 0 ≤ v11 then B v11 h10 else (zbI (zcf X m_M_refuse [.ref 123, .int v11] h10) fun v14 h13 => (some (some (.int v14), h13))))))))) (go : ∀ p k, p < tn (wt w) → k < 61 → x = nI p → n = nI k → rg y (last + 1) → ∃ r, (∃ h1, A 0 h = some (some (.int r), h1) ∧ FM pXq h h1) ∧ ∀ H : zH, MP H w → ∃ h2, B 0 H = some (some (.int r), h2) ∧ MP h2 w ∧ FM pMa H h2) : OK2 X mx mm [.int x, .int n, .int y] h := by
  have h6 : tn (wt w) ≤ 6 := V.1.1.1
  obtain ⟨s1, s2, s3, s4⟩ := s_wrongNights (X := X) hX V (x := x) (y := n)
  by_cases hx : rg x (tn (wt w))
  · obtain ⟨p, hp, ex1⟩ := id hx
    have one : ∀ H : zH, MP H w → zcf X m_M_isOne [.ref 123, .int x] H = some (some (.int 1), H) := fun H R => by rw [ex1]; exact m_isOne1 R.1.1 h6 hp
    by_cases h0 : 0 ≤ n
    · by_cases h60 : n ≤ 60
      · obtain ⟨k, hk, ek⟩ := rg_le (n := 60) (by decide) h0 h60
        by_cases hy : rg y (last + 1)
        · obtain ⟨r, ⟨h1, a1, a2⟩, b⟩ := go p k hp hk ex1 ek hy
          have hy' := hy
          rw [rg_of (by omega)] at hy'
          refine OK2.qy (r := r) hX hM V ⟨h1, ?_, a2⟩ fun h1' H i1 i2 R => ?_
          · rw [ex, s1 p k hp hk ex1 ek, zbI_some, if_pos (show (0 : Int32) = 0 from rfl), if_neg (show ¬ y < 0 from fun z => absurd (lt0_iff.mp z) (by omega)), if_pos (show y ≤ nI last from (nI_le' (by omega)).mpr (by omega)), a1]
          · obtain ⟨h2, b1, b2, b3⟩ := b H R
            refine ⟨h2, ?_, b2, b3⟩
            rw [em, i1, i2, one (H.1, H.2) R, zbI_some, if_neg (show ¬ (1 : Int32) = 0 by decide), m_wrongN, zbI_some, if_pos h0, if_pos h60, m_wrongBit hl, zbI_some, if_neg (show ¬ ((0 : Int32) = 0 ∧ ¬ rg y (last + 1)) from fun z => z.2 hy), if_pos (show (0 : Int32) ≤ 0 by decide)]
            exact b1
        · have hy' := hy
          rw [rg_of (by omega)] at hy'
          refine OK2.no (x := -2) 2 hX hM V (by decide) (by decide) (by decide) ?_ fun h1 H i1 i2 R => ⟨H, ?_, R, FM.rf⟩
          · rw [ex, s1 p k hp hk ex1 ek, zbI_some, if_pos (show (0 : Int32) = 0 from rfl)]
            by_cases y0 : y < 0
            · rw [if_pos y0, zrx2]
            · rw [if_neg y0, if_neg (show ¬ y ≤ nI last from fun z => by
                have z1 := (nI_le' (by omega)).mp z
                have z2 : ¬ y.toInt < 0 := fun z => y0 (lt0_iff.mpr z)
                omega), zrx2]
          · rw [em, i1, i2, one (H.1, H.2) R, zbI_some, if_neg (show ¬ (1 : Int32) = 0 by decide), m_wrongN, zbI_some, if_pos h0, if_pos h60, m_wrongBit hl, zbI_some, if_pos (show ((0 : Int32) = 0 ∧ ¬ rg y (last + 1)) from ⟨rfl, hy⟩), if_neg (show ¬ (0 : Int32) ≤ -2 by decide), zrm2]
      · refine OK2.no (x := -6) 6 hX hM V (by decide) (by decide) (by decide) ?_ fun h1 H i1 i2 R => ⟨H, ?_, R, FM.rf⟩
        · rw [ex, s4 hx h0 h60, zbI_some, if_neg (show ¬ (-6 : Int32) = 0 by decide), zrx6]
        · rw [em, i1, i2, one (H.1, H.2) R, zbI_some, if_neg (show ¬ (1 : Int32) = 0 by decide), m_wrongN, zbI_some, if_pos h0, if_neg h60, m_wrongBit hl, zbI_some, if_neg (show ¬ ((-6 : Int32) = 0 ∧ ¬ rg y (last + 1)) from fun z => absurd z.1 (by decide)), if_neg (show ¬ (0 : Int32) ≤ -6 by decide), zrm6]
    · refine OK2.no (x := -4) 4 hX hM V (by decide) (by decide) (by decide) ?_ fun h1 H i1 i2 R => ⟨H, ?_, R, FM.rf⟩
      · rw [ex, s3 hx h0, zbI_some, if_neg (show ¬ (-4 : Int32) = 0 by decide), zrx4]
      · rw [em, i1, i2, one (H.1, H.2) R, zbI_some, if_neg (show ¬ (1 : Int32) = 0 by decide), m_wrongN, zbI_some, if_neg h0, m_wrongBit hl, zbI_some, if_neg (show ¬ ((-4 : Int32) = 0 ∧ ¬ rg y (last + 1)) from fun z => absurd z.1 (by decide)), if_neg (show ¬ (0 : Int32) ≤ -4 by decide), zrm4]
  · refine OK2.no (x := -1) 1 hX hM V (by decide) (by decide) (by decide) ?_ fun h1 H i1 i2 R => ⟨H, ?_, R, FM.rf⟩
    · rw [ex, s2 hx, zbI_some, if_neg (show ¬ (-1 : Int32) = 0 by decide), zrx1]
    · rw [em, i1, i2, m_isOne0 (h := (H.1, H.2)) R.1.1 h6 hx, zbI_some, if_pos (show (0 : Int32) = 0 from rfl), m_wrongBit hl, zbI_some, if_neg (show ¬ ((-1 : Int32) = 0 ∧ ¬ rg y (last + 1)) from fun z => absurd z.1 (by decide)), if_neg (show ¬ (0 : Int32) ≤ -1 by decide), zrm1]
theorem s_walF (n : Nat) (hn : n < 61) {p : Nat} {y f : Int32} : ∀ (m i : Nat) (t : zT) (h : zH) (u v : Int32) (g8 g9 : Option Value), p < tn t → i + m = n → MD h0 t h → ∃ h', zrn X 5 m_X_walks 56 [some (.ref 1), some (.int (nI p)), some (.int (nI n)), some (.int y), some (.int f), some (.int u), some (.int v), some (.int (nI i)), g8, g9] [] h = some (some (.int (if y = 0 then (walF p m t u v).1 else (walF p m t u v).2)), h') ∧ FM pXq h0 h' := by
  intro m
  induction m with
  | zero =>
    intro i t h u v g8 g9 hp hi D
    refine ⟨h, ?_, D.2.1⟩
    rw [b_X_walks_56, if_pos (nI_le (by omega) (by omega)), zI_ite]
    rfl
  | succ m ih =>
    intro i t h u v g8 g9 hp hi D
    obtain ⟨h1, a1, a2, -⟩ := D.night (X := X) (-9)
    have e := (night_V D.2.2 (-9)).2
    rw [b_X_walks_56, if_neg (nI_ge (by omega) (by omega)), s_cellOf hH_8 D.1 D.2.2.1 hp, zbI_some, s_facesOf hH_8 D.1 D.2.2.1 hp, zbI_some, a1, zbV_some, s_cellOf hH_8 a2.1 a2.2.2.1 (by omega), zbI_some, s_facesOf hH_8 a2.1 a2.2.2.1 (by omega), zbI_some, nI_add1, walF_s]
    exact ih (i + 1) _ h1 _ _ _ _ (by omega) (by omega) a2
theorem m_walF (R0 : MP h0 w) (V : WV w) (n : Nat) (hn : n < 61) {p : Nat} {y f : Int32} : ∀ (m i : Nat) (t : zT) (h : zH) (u v : Int32) (g8 : Option Value), p < tn t → i + m = n → TH h0 t h → ∃ h', zrn X 6 m_M_walks 56 [some (.ref 123), some (.int (nI p)), some (.int (nI n)), some (.int y), some (.int f), some (.int u), some (.int v), some (.int (nI i)), g8] [] h = some (some (.int (if y = 0 then (walF p m t u v).1 else (walF p m t u v).2)), h') ∧ MP h' w ∧ FM pMa h0 h' := by
  intro m
  induction m with
  | zero =>
    intro i t h u v g8 hp hi T
    obtain ⟨h1, a1, a2, a3⟩ := T.again (X := X) R0 V
    refine ⟨h1, ?_, a2, a3⟩
    rw [b_M_walks_56, if_pos (nI_le (by omega) (by omega)), a1, zbV_some, zI_ite]
    rfl
  | succ m ih =>
    intro i t h u v g8 hp hi T
    obtain ⟨h1, a1, a2, a3, a4, a5⟩ := T.night (X := X) (-9)
    have e := (night_V T.2.2 (-9)).2
    have h6 := T.2.2.1
    obtain ⟨c1, -, c3, -⟩ := night_ch T.2.2 (-9)
    rw [b_M_walks_56, if_neg (nI_ge (by omega) (by omega)), if_pos (zin_nI (by omega) (by decide)), a1, zbV_some, a4, m_hasB c3 (by omega), zbI_some, if_pos (zin_nI (by omega) (by decide)), nI_clamp (by omega), b01', (a2.1.2 p (by omega)).2.2.2.1, (T.1.2 p hp).2.2.2.1, nI_add1, walF_s]
    have q : (if (night t (-9)).2.2.2 &&& bt p = 0 then (0 : Int32) else 1) = if tC (night t (-9)).1 p = tC t p then 0 else 1 := by
      have := (c1 p hp).2.1
      by_cases z : tC (night t (-9)).1 p = tC t p
      · rw [if_pos z, if_pos (this.mpr z)]
      · rw [if_neg z, if_neg (fun k => z (this.mp k))]
    rw [q]
    exact ih (i + 1) _ h1 _ _ _ (by omega) (by omega) a2
theorem ok_walks (hX : XP h w) (hM : MP h w) (V : WV w) {x n y : Int32} : OK2 X m_X_walks m_M_walks [.int x, .int n, .int y] h := by
  refine OK2.wn (last := 1) (by decide) hX hM V (A := fun v2 h1 => (zbV (zcf X m_H_become [.ref 8, .ref 2] h1) fun h5 => zrn X 5 m_X_walks 56 [some (.ref 1), some (.int x), some (.int n), some (.int y), some (.int v2), some (.int 0), some (.int 0), some (.int 0), none, none] [] h5)) (B := fun v11 h10 => (zbV (zcf X m_M_think [.ref 123] h10) fun h12 => zrn X 6 m_M_walks 56 [some (.ref 123), some (.int x), some (.int n), some (.int y), some (.int v11), some (.int 0), some (.int 0), some (.int 0), none] [] h12)) (B' := fun v4 h3 => (zbV (zcf X m_M_think [.ref 123] h3) fun h5 => zrn X 6 m_M_walks 56 [some (.ref 123), some (.int x), some (.int n), some (.int y), some (.int v4), some (.int 0), some (.int 0), some (.int 0), none] [] h5)) e_X_walks (fun _ => e_M_walks) fun p k hp hk e1 e2 hy => ⟨if y = 0 then (walF p k (wt w) 0 0).1 else (walF p k (wt w) 0 0).2, ?_, fun H R => ?_⟩
  · obtain ⟨h1, a1, a2⟩ := s_mind (X := X) hX V
    rw [e1, e2, a1, zbV_some]
    exact s_walF k hk k 0 _ h1 0 0 none none hp (Nat.zero_add _) a2
  · obtain ⟨h1, a1, a2⟩ := TH.think (X := X) R V
    rw [e1, e2, a1, zbV_some]
    exact m_walF R V k hk k 0 _ h1 0 0 none hp (Nat.zero_add _) a2
theorem s_stiF : ∀ (m i : Nat) (t : zT) (h : zH), i + m = 61 → MD h0 t h → ∃ h', zrn X 5 m_X_still 13 [some (.ref 1), some (.int (nI i))] [] h = some (some (.int (frsF stiP m i t)), h') ∧ FM pXq h0 h' := by
  intro m
  induction m with
  | zero =>
    intro i t h hi D
    have : i = 61 := by omega
    subst this
    exact ⟨h, by rw [b_X_still_13, if_pos (by decide)]; rfl, D.2.1⟩
  | succ m ih =>
    intro i t h hi D
    obtain ⟨h1, a1, a2, a3, a4⟩ := D.night (X := X) (-9)
    rw [b_X_still_13, if_neg (gt60 (by omega)), frsF_s, nI_add1, a1, zbV_some, a4]
    by_cases r : (night t (-9)).2.2.1 = 0
    · rw [if_pos r, if_pos (show stiP t = true by unfold stiP; simp [r])]
      exact ⟨h1, rfl, a2.2.1⟩
    · rw [if_neg r, if_neg (show ¬ stiP t = true by unfold stiP; simp [r])]
      exact ih (i + 1) _ h1 (by omega) a2
theorem m_stFill {x1 x2 : Int32} {g4 : Option Value} : ∀ (m i : Nat) (h : zH), i + m = tn t → TH h0 t h → (∀ j, j < i → h.1 138 j = 4 * tC t j + tD t j) → ∃ h1, zrn X 6 m_M_still 26 [some (.ref 123), some (.int x1), some (.int x2), some (.int (nI i)), g4] [] h = (zbV (zcf X m_M_nightBy [.ref 123, .int (-9)] h1) fun h1 => zrn X 6 m_M_still 72 [some (.ref 123), some (.int x1), some (.int x2), some (.int 1), some (.int 0)] [] h1) ∧ TH h0 t h1 ∧ ∀ j, j < tn t → h1.1 138 j = 4 * tC t j + tD t j := by
  intro m
  induction m with
  | zero =>
    intro i h hi T hj
    have h6 := T.2.2.1
    refine ⟨h, ?_, T, fun j hj2 => hj j (by omega)⟩
    rw [b_M_still_26, T.1.1, if_pos (nI_le (by omega) (by omega))]
  | succ m ih =>
    intro i h hi T hj
    have h6 := T.2.2.1
    obtain ⟨-, -, c, d, -⟩ := T.1.2 i (by omega)
    obtain ⟨h1, a1, a2, a3⟩ := ih (i + 1) (zup h.1 138 i (4 * tC t i + tD t i), h.2) (by omega) (T.go (T.1.cel (Or.inr (by decide))) (FM.up (by unfold pT pS; omega)) T.2.2) (fun j hj2 => by
      dsimp only
      by_cases q : j = i
      · rw [q, zup_eq]
      · rw [zup_ns q]; exact hj j (by omega))
    refine ⟨h1, ?_, a2, a3⟩
    rw [b_M_still_26, T.1.1, if_neg (nI_ge (by omega) (by omega)), if_pos (zin_nI (by omega) (by decide)), if_pos (zin_nI (by omega) (by decide)), if_pos (zin_nI (by omega) (by decide)), nI_clamp (by omega), c, d, nI_add1]
    exact a1
theorem m_stCmp {k : Nat → Int32} {x1 x2 : Int32} (R : MR h t) (hn : tn t ≤ 6) (hk : ∀ j, j < tn t → h.1 138 j = k j) : ∀ (m i : Nat) (b : Bool), i + m = tn t → ∃ g3 g4, zrn X 6 m_M_still 72 [some (.ref 123), some (.int x1), some (.int x2), some (.int (if b = true then 1 else 0)), some (.int (nI i))] [] h = zrn X 6 m_M_still 14 [some (.ref 123), some (.int (if cmpF k t m i b = true then x2 else -9)), some (.int (x2 + 1)), g3, g4] [] h := by
  intro m
  induction m with
  | zero =>
    intro i b hi
    refine ⟨some (.int (if b = true then 1 else 0)), some (.int (nI i)), ?_⟩
    rw [b_M_still_72, R.1, if_pos (nI_le (by omega) (by omega))]
    cases b
    · rfl
    · rfl
  | succ m ih =>
    intro i b hi
    rw [b_M_still_72, R.1, if_neg (nI_ge (by omega) (by omega)), cmpF_s, nI_add1]
    cases b
    · rw [if_pos (show (if false = true then (1 : Int32) else 0) = 0 from rfl)]
      exact ih (i + 1) false (by omega)
    · obtain ⟨-, -, c, d, -⟩ := R.2 i (by omega)
      rw [if_neg (show ¬ (if true = true then (1 : Int32) else 0) = 0 by decide), if_pos (zin_nI (by omega) (by decide)), if_pos (zin_nI (by omega) (by decide)), if_pos (zin_nI (by omega) (by decide)), nI_clamp (by omega), c, d, hk i (by omega), if_pos (show true = true from rfl)]
      have := ih (i + 1) (decide (k i = 4 * tC t i + tD t i)) (by omega)
      by_cases q : k i = 4 * tC t i + tD t i
      · rw [if_pos q]
        rw [decide_eq_true q] at this ⊢
        exact this
      · rw [if_neg q]
        rw [decide_eq_false q] at this ⊢
        exact this
theorem m_stiF (R0 : MP h0 w) (V : WV w) : ∀ (m i : Nat) (t : zT) (h : zH) (g3 g4 : Option Value), i + m = 61 → TH h0 t h → ∃ h', zrn X 6 m_M_still 14 [some (.ref 123), some (.int (-9)), some (.int (nI i)), g3, g4] [] h = some (some (.int (frsF stiP m i t)), h') ∧ MP h' w ∧ FM pMa h0 h' := by
  intro m
  induction m with
  | zero =>
    intro i t h g3 g4 hi T
    have : i = 61 := by omega
    subst this
    obtain ⟨h1, a1, a2, a3⟩ := T.again (X := X) R0 V
    exact ⟨h1, by rw [b_M_still_14, if_pos (by decide), a1, zbV_some]; rfl, a2, a3⟩
  | succ m ih =>
    intro i t h g3 g4 hi T
    have h6 := T.2.2.1
    obtain ⟨hf, f1, f2, f3⟩ := m_stFill (X := X) (x1 := -9) (x2 := nI i) (g4 := g4) (tn t) 0 h (Nat.zero_add _) T (fun j hj => by omega)
    obtain ⟨h1, a1, a2, a3, a4, a5⟩ := f2.night (X := X) (-9)
    have en := (night_V T.2.2 (-9)).2
    obtain ⟨g3', g4', c⟩ := m_stCmp (X := X) (k := fun j => 4 * tC t j + tD t j) (x1 := -9) (x2 := nI i) a2.1 a2.2.2.1 (fun j hj => by rw [a5.2 138 j (by unfold pN; omega)]; exact f3 j (by omega)) (tn (night t (-9)).1) 0 true (Nat.zero_add _)
    have key : cmpF (fun j => 4 * tC t j + tD t j) (night t (-9)).1 (tn (night t (-9)).1) 0 true = true ↔ stiP t = true := by
      rw [cmpF_iff, en]
      unfold stiP
      rw [decide_eq_true_iff, (night_ch T.2.2 (-9)).2.2.2]
      exact ⟨fun h q hq => (h.2 q (Nat.zero_le _) (by omega)).symm, fun h => ⟨rfl, fun q _ hq => (h q (by omega)).symm⟩⟩
    rw [b_M_still_14, if_neg (gt60 (by omega)), if_neg (show ¬ (0 : Int32) ≤ -9 by decide), show zrn X 6 m_M_still 26 [some (.ref 123), some (.int (-9)), some (.int (nI i)), some (.int 0), g4] [] h = _ from f1, a1, zbV_some, show zrn X 6 m_M_still 72 [some (.ref 123), some (.int (-9)), some (.int (nI i)), some (.int 1), some (.int 0)] [] h1 = _ from c, frsF_s, nI_add1]
    by_cases r : stiP t = true
    · rw [if_pos r, if_pos (key.mpr r)]
      obtain ⟨h2, c1, c2, c3⟩ := a2.again (X := X) R0 V
      refine ⟨h2, ?_, c2, c3⟩
      rw [b_M_still_14]
      by_cases z : (60 : Int32) < nI (i + 1)
      · rw [if_pos z, c1, zbV_some]
      · rw [if_neg z, if_pos (nI_pos' (by omega)), c1, zbV_some]
    · rw [if_neg r, if_neg (fun z => r (key.mp z))]
      exact ih (i + 1) _ h1 _ _ (by omega) a2
theorem ok_still (hX : XP h w) (hM : MP h w) (V : WV w) : OK2 X m_X_still m_M_still [] h := by
  obtain ⟨h1, a1, a2⟩ := s_mind (X := X) hX V
  obtain ⟨h2, b1, b2⟩ := s_stiF (X := X) 61 0 _ h1 rfl a2
  refine OK2.qy (r := frsF stiP 61 0 (wt w)) hX hM V ⟨h2, ?_, b2⟩ fun h1' H i1 i2 R => ?_
  · rw [e_X_still, a1, zbV_some]
    exact b1
  · obtain ⟨h3, c1, c2⟩ := TH.think (X := X) R V
    obtain ⟨h4, d1, d2, d3⟩ := m_stiF (X := X) R V 61 0 _ h3 none none rfl c2
    refine ⟨h4, ?_, d2, d3⟩
    rw [e_M_still, i1, i2, c1, zbV_some]
    exact d1
theorem ok_behind (hX : XP h w) (hM : MP h w) (V : WV w) {x n y : Int32} : OK2 X m_X_behind m_M_behind [.int x, .int n, .int y] h := by
  have h6 : tn (wt w) ≤ 6 := V.1.1.1
  refine OK2.wn (last := 5) (by decide) hX hM V _ _ _ e_X_behind (fun _ => e_M_behind) fun p k hp hk e1 e2 hy => ⟨behW (nts (wt w) k) p y, ?_, fun H R => ?_⟩
  · obtain ⟨h1, a1, a2⟩ := s_look (X := X) hX V hk
    have hp' : p < tn (nts (wt w) k) := by rw [(nts_V k (wt w) V.1.1).2]; exact hp
    refine ⟨h1, ?_, a2.2.1⟩
    rw [e1, e2, a1, zbV_some, s_cellOf hH_8 a2.1 a2.2.2.1 hp', zbI_some, s_facesOf hH_8 a2.1 a2.2.2.1 hp', zbI_some, s_startsOf hH_8 a2.1 a2.2.2.1 hp', zbI_some, s_ahead hH_8 a2.1 a2.2.2 hp', zbI_some, s_inLens hH_8 a2.1 a2.2.2 hp', zbI_some, s_watchers hH_8 a2.1 a2.2.2, zbI_some]
    unfold behW
    simp only [zI_ite]
  · obtain ⟨h1, a1, a2⟩ := TH.think (X := X) R V
    obtain ⟨h2, b1, b2⟩ := a2.nights (X := X) (e := k) (by omega)
    obtain ⟨h3, c1, c2, c3⟩ := b2.again (X := X) R V
    have hp' : p < tn (nts (wt w) k) := by rw [(nts_V k (wt w) V.1.1).2]; exact hp
    obtain ⟨-, -, m1, m2, m3⟩ := b2.1.2 p hp'
    refine ⟨h3, ?_, c2, c3⟩
    rw [e1, e2, a1, zbV_some, b1, zbV_some, if_pos (zin_nI (by omega) (by decide)), if_pos (zin_nI (by omega) (by decide)), if_pos (zin_nI (by omega) (by decide)), nI_clamp (by omega), m1, m2, m3, m_aheadOf b2.1 b2.2.2 hp', zbI_some, m_lensOf b2.1 b2.2.2 hp', zbI_some, m_watchersOf b2.1 b2.2.2, zbI_some, c1, zbV_some, zbV_some, zbV_some, zbV_some, zbV_some, zbV_some]
    unfold behW
    simp only [zI_ite]
end z50
