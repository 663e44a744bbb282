/-! lines, nearest, twos -/
def linF (t : zT) (l : Int32) : Nat → Nat → Int32 → Int32 → Int32 × Int32
  | 0, _, a, b => (a, b)
  | m + 1, p, a, b => linF t l m (p + 1) (a + (if tC t p / 6 = l then 1 else 0)) (b + (if zrem (tC t p) 6 = l then 1 else 0))
def lngF (t : zT) : Nat → Nat → Int32 → Int32
  | 0, _, y => y
  | k + 1, l, y => lngF t k (l + 1) (y + ((if (linF t (nI l) (tn t) 0 0 0).1 ≤ 1 then 0 else 1) + (if (linF t (nI l) (tn t) 0 0 0).2 ≤ 1 then 0 else 1)))
/-- how far apart -/
def apt (c d : Int32) : Int32 := (if 0 ≤ ((c / 6) - (d / 6)) then ((c / 6) - (d / 6)) else (-((c / 6) - (d / 6)))) + (if 0 ≤ ((zrem c 6) - (zrem d 6)) then ((zrem c 6) - (zrem d 6)) else (-((zrem c 6) - (zrem d 6))))
theorem apt_rg : ∀ c, c < 36 → ∀ d, d < 36 → 0 ≤ apt (nI c) (nI d) := by decide +kernel
theorem apt_pos {t : zT} (V : tV t) {p q : Nat} (hp : p < tn t) (hq : q < tn t) : 0 ≤ apt (tC t p) (tC t q) := by
  obtain ⟨i, hi, e⟩ := (V.2 p hp).2.2.1
  obtain ⟨j, hj, f⟩ := (V.2 q hq).2.2.1
  rw [e, f]
  exact apt_rg i hi j hj
/-- one more two -/
def nea1 (t : zT) (p q : Nat) (s : Int32 × Int32) : Int32 × Int32 := if s.1 = -9 then (10 * nI p + nI q, apt (tC t p) (tC t q)) else (if s.2 ≤ apt (tC t p) (tC t q) then s else (10 * nI p + nI q, apt (tC t p) (tC t q)))
def neaI (t : zT) (p : Nat) : Nat → Nat → Int32 × Int32 → Int32 × Int32
  | 0, _, s => s
  | m + 1, q, s => neaI t p m (q + 1) (nea1 t p q s)
def neaO (t : zT) : Nat → Nat → Int32 × Int32 → Int32 × Int32
  | 0, _, s => s
  | m + 1, p, s => neaO t m (p + 1) (neaI t p m (p + 1) s)
def neaV (s : Int32 × Int32) : Prop := (s.1 = -9 ∧ s.2 = -9) ∨ (s.1 ≠ -9 ∧ 0 ≤ s.2)
theorem ten_ne : ∀ p, p < 6 → ∀ q, q < 6 → ¬ (10 * nI p + nI q : Int32) = -9 := by decide +kernel
theorem nea1_V {t : zT} (V : tV t) {p q : Nat} (hp : p < tn t) (hq : q < tn t) {s : Int32 × Int32} (h : neaV s) : neaV (nea1 t p q s) := by
  have hn := V.1
  unfold nea1
  by_cases h1 : s.1 = -9
  · rw [if_pos h1]; exact Or.inr ⟨ten_ne p (by omega) q (by omega), apt_pos V hp hq⟩
  · rw [if_neg h1]
    by_cases h2 : s.2 ≤ apt (tC t p) (tC t q)
    · rw [if_pos h2]; exact h
    · rw [if_neg h2]; exact Or.inr ⟨ten_ne p (by omega) q (by omega), apt_pos V hp hq⟩
theorem neaI_V {t : zT} (V : tV t) {p : Nat} (hp : p < tn t) : ∀ (m q : Nat) (s : Int32 × Int32), q + m ≤ tn t → neaV s → neaV (neaI t p m q s) := by
  intro m
  induction m with
  | zero => intro q s _ h; exact h
  | succ m ih => intro q s hq h; exact ih (q + 1) _ (by omega) (nea1_V V hp (by omega) h)
section z38
variable {X : zX} {h : zH} {w : zW} {mx mm : zM} {as : List Value} {t : zT}
theorem s_linF (H : isH 2) (R : HR h 2 t) (hn : tn t ≤ 6) (y : Int32) (l : Nat) : ∀ (m p : Nat) (a b : Int32), p + m = tn t → zrn X 2 m_X_lines 18 [some (.ref 1), some (.int y), some (.int (nI l)), some (.int a), some (.int b), some (.int (nI p))] [] h = zrn X 2 m_X_lines 4 [some (.ref 1), some (.int (y + ((if (linF t (nI l) m p a b).1 ≤ 1 then 0 else 1) + (if (linF t (nI l) m p a b).2 ≤ 1 then 0 else 1)))), some (.int (nI (l + 1))), some (.int (linF t (nI l) m p a b).1), some (.int (linF t (nI l) m p a b).2), some (.int (nI (tn t)))] [] h := by
  intro m
  induction m with
  | zero =>
    intro p a b hp
    rw [b_X_lines_18, R.1, if_pos (nI_le (by omega) (by omega)), nI_add1, show p = tn t by omega]
    rfl
  | succ m ih =>
    intro p a b hp
    rw [b_X_lines_18, R.1, if_neg (nI_ge (by omega) (by omega)), e_H_cellOf H, s_celOf H R hn (by omega), zbI_some, zbI_some, e_X_rowOf, zbI_some, e_H_cellOf H, s_celOf H R hn (by omega), zbI_some, zbI_some, e_X_columnOf, zbI_some, nI_add1, ih _ _ _ (by omega)]
    rfl
theorem s_lngF (H : isH 2) (R : HR h 2 t) (hn : tn t ≤ 6) : ∀ (k l : Nat) (y : Int32) (g1 g2 g3 : Option Value), l + k = 6 → zrn X 2 m_X_lines 4 [some (.ref 1), some (.int y), some (.int (nI l)), g1, g2, g3] [] h = some (some (.int (lngF t k l y)), h) := by
  intro k
  induction k with
  | zero =>
    intro l y g1 g2 g3 hl
    rw [b_X_lines_4, if_pos (show (6 : Int32) ≤ nI l from nI_le (a := 6) (by omega) (by omega))]
    rfl
  | succ k ih =>
    intro l y g1 g2 g3 hl
    rw [b_X_lines_4, if_neg (show ¬ (6 : Int32) ≤ nI l from nI_ge (b := 6) (by omega) (by omega))]
    rw [show zrn X 2 m_X_lines 18 [some (.ref 1), some (.int y), some (.int (nI l)), some (.int 0), some (.int 0), some (.int 0)] [] h = _ from s_linF H R hn y l (tn t) 0 0 0 (Nat.zero_add _), ih _ _ _ _ _ (by omega)]
    rfl
theorem m_linF (R : MR h t) (hn : tn t ≤ 6) (y : Int32) (l : Nat) : ∀ (m p : Nat) (a b : Int32), p + m = tn t → zrn X 0 m_M_lines 23 [some (.ref 123), some (.int y), some (.int (nI l)), some (.int a), some (.int b), some (.int (nI p))] [] h = zrn X 0 m_M_lines 9 [some (.ref 123), some (.int (y + ((if (linF t (nI l) m p a b).1 ≤ 1 then 0 else 1) + (if (linF t (nI l) m p a b).2 ≤ 1 then 0 else 1)))), some (.int (nI (l + 1))), some (.int (linF t (nI l) m p a b).1), some (.int (linF t (nI l) m p a b).2), some (.int (nI (tn t)))] [] h := by
  intro m
  induction m with
  | zero =>
    intro p a b hp
    rw [b_M_lines_23, R.1, if_pos (nI_le (by omega) (by omega)), nI_add1, show p = tn t by omega]
    rfl
  | succ m ih =>
    intro p a b hp
    have hp6 : p < tn t := by omega
    rw [b_M_lines_23, R.1, if_neg (nI_ge (by omega) (by omega)), if_pos (zin_nI (by omega) (by decide)), if_pos (zin_nI (by omega) (by decide)), nI_clamp (by omega), (R.2 p hp6).2.2.1, nI_add1, ih _ _ _ (by omega)]
    rfl
theorem m_lngF (R : MR h t) (hn : tn t ≤ 6) : ∀ (k l : Nat) (y : Int32) (g1 g2 g3 : Option Value), l + k = 6 → zrn X 0 m_M_lines 9 [some (.ref 123), some (.int y), some (.int (nI l)), g1, g2, g3] [] h = some (some (.int (lngF t k l y)), h) := by
  intro k
  induction k with
  | zero =>
    intro l y g1 g2 g3 hl
    rw [b_M_lines_9, if_pos (show (6 : Int32) ≤ nI l from nI_le (a := 6) (by omega) (by omega))]
    rfl
  | succ k ih =>
    intro l y g1 g2 g3 hl
    rw [b_M_lines_9, if_neg (show ¬ (6 : Int32) ≤ nI l from nI_ge (b := 6) (by omega) (by omega))]
    rw [show zrn X 0 m_M_lines 23 [some (.ref 123), some (.int y), some (.int (nI l)), some (.int 0), some (.int 0), some (.int 0)] [] h = _ from m_linF R hn y l (tn t) 0 0 0 (Nat.zero_add _), ih _ _ _ _ _ (by omega)]
    rfl
theorem ok_lines (hX : XP h w) (hM : MP h w) (V : WV w) : OK2 X m_X_lines m_M_lines [] h := OK2.q0 (r := lngF (wt w) 6 0 0) hX hM V (by rw [e_X_lines]; exact s_lngF hH_2 hX.1.1 V.1.1.1 _ _ _ _ _ _ rfl) fun h1 H i1 i2 R => by
  rw [e_M_lines, i1, i2]
  exact m_lngF R.1.1 V.1.1.1 6 0 0 none none none rfl
theorem s_apt {a : Nat} (H : isH a) (R : HR h a t) (hn : tn t ≤ 6) {p q : Nat} (hp : p < tn t) (hq : q < tn t) : zcf X m_H_cellsApart [.ref a, .int (nI p), .int (nI q)] h = some (some (.int (apt (tC t p) (tC t q))), h) := by
  rw [e_H_cellsApart H, s_celOf H R hn hp, zbI_some, s_celOf H R hn hq, zbI_some, e_X_rowOf, zbI_some, e_X_rowOf, zbI_some, e_X_columnOf, zbI_some, e_X_columnOf, zbI_some, Int32.zero_sub, Int32.zero_sub]
  rfl
theorem m_apt {c d : Int32} : zcf X m_M_apart [.int c, .int d] h = some (some (.int (apt c d)), h) := e_M_apart
theorem s_neaI (H : isH 2) (R : HR h 2 t) (hn : tn t ≤ 6) (x : Int32) {p : Nat} (hp : p < tn t) : ∀ (m q : Nat) (s : Int32 × Int32) (g : Option Value), q + m = tn t → ∃ g', zrn X 2 m_X_nearest 43 [some (.ref 1), some (.int x), some (.int s.1), some (.int s.2), some (.int (nI p)), some (.int (nI q)), g] [] h = zrn X 2 m_X_nearest 25 [some (.ref 1), some (.int x), some (.int (neaI t p m q s).1), some (.int (neaI t p m q s).2), some (.int (nI (p + 1))), some (.int (nI (tn t))), g'] [] h := by
  intro m
  induction m with
  | zero =>
    intro q s g hq
    refine ⟨g, ?_⟩
    rw [b_X_nearest_43, R.1, if_pos (nI_le (by omega) (by omega)), nI_add1, show q = tn t by omega]
    rfl
  | succ m ih =>
    intro q s g hq
    obtain ⟨g', e⟩ := ih (q + 1) (nea1 t p q s) (some (Value.int (apt (tC t p) (tC t q)))) (by omega)
    refine ⟨g', ?_⟩
    rw [b_X_nearest_43, R.1, if_neg (nI_ge (by omega) (by omega)), s_apt H R hn hp (by omega), zbI_some, nI_add1]
    show _ = zrn X 2 m_X_nearest 25 [some (.ref 1), some (.int x), some (.int (neaI t p m (q + 1) (nea1 t p q s)).1), some (.int (neaI t p m (q + 1) (nea1 t p q s)).2), some (.int (nI (p + 1))), some (.int (nI (tn t))), g'] [] h
    rw [← e]
    unfold nea1
    by_cases h1 : s.1 = -9
    · rw [if_pos h1, if_pos h1, if_pos h1]
    · rw [if_neg h1, if_neg h1, if_neg h1]
      by_cases h2 : s.2 ≤ apt (tC t p) (tC t q)
      · rw [if_pos h2, if_pos h2, if_pos h2]
      · rw [if_neg h2, if_neg h2, if_neg h2]
theorem s_neaO (H : isH 2) (R : HR h 2 t) (hn : tn t ≤ 6) (x : Int32) : ∀ (m p : Nat) (s : Int32 × Int32) (g g2 : Option Value), p + m = tn t → zrn X 2 m_X_nearest 25 [some (.ref 1), some (.int x), some (.int s.1), some (.int s.2), some (.int (nI p)), g, g2] [] h = some (some (.int (if x = 0 then (neaO t m p s).1 else (neaO t m p s).2)), h) := by
  intro m
  induction m with
  | zero =>
    intro p s g g2 hp
    rw [b_X_nearest_25, R.1, if_pos (nI_le (by omega) (by omega)), zI_ite]
    rfl
  | succ m ih =>
    intro p s g g2 hp
    rw [b_X_nearest_25, R.1, if_neg (nI_ge (by omega) (by omega)), nI_add1]
    obtain ⟨g', e⟩ := s_neaI (X := X) H R hn x (show p < tn t by omega) m (p + 1) s g2 (by omega)
    rw [e, ih _ _ _ _ (by omega)]
    rfl
theorem m_neaI (R : MR h t) (V : tV t) (x : Int32) {p : Nat} (hp : p < tn t) : ∀ (m q : Nat) (s : Int32 × Int32) (g g2 : Option Value), q + m = tn t → neaV s → ∃ g' g2', zrn X 1 m_M_nearest 46 [some (.ref 123), some (.int x), some (.int s.1), some (.int s.2), some (.int (nI p)), some (.int (nI q)), g, g2] [] h = zrn X 1 m_M_nearest 31 [some (.ref 123), some (.int x), some (.int (neaI t p m q s).1), some (.int (neaI t p m q s).2), some (.int (nI (p + 1))), some (.int (nI (tn t))), g', g2'] [] h := by
  have hn := V.1
  intro m
  induction m with
  | zero =>
    intro q s g g2 hq _
    refine ⟨g, g2, ?_⟩
    rw [b_M_nearest_46, R.1, if_pos (nI_le (by omega) (by omega)), nI_add1, show q = tn t by omega]
    rfl
  | succ m ih =>
    intro q s g g2 hq hv
    have hq6 : q < tn t := by omega
    obtain ⟨g', g2', e⟩ := ih (q + 1) (nea1 t p q s) (some (Value.int (apt (tC t p) (tC t q)))) (some (Value.int (if s.2 < 0 then (1 : Int32) else (if s.2 ≤ apt (tC t p) (tC t q) then (0 : Int32) else 1)))) (by omega) (nea1_V V hp hq6 hv)
    refine ⟨g', g2', ?_⟩
    rw [b_M_nearest_46, R.1, if_neg (nI_ge (by omega) (by omega)), if_pos (zin_nI (by omega) (by decide)), if_pos (zin_nI (by omega) (by decide)), nI_clamp (by omega), nI_clamp (by omega), (R.2 p hp).2.2.1, (R.2 q hq6).2.2.1, m_apt, zbI_some, nI_add1]
    show _ = zrn X 1 m_M_nearest 31 [some (.ref 123), some (.int x), some (.int (neaI t p m (q + 1) (nea1 t p q s)).1), some (.int (neaI t p m (q + 1) (nea1 t p q s)).2), some (.int (nI (p + 1))), some (.int (nI (tn t))), g', g2'] [] h
    rw [← e]
    unfold nea1
    rcases hv with ⟨h1, h2⟩ | ⟨h1, h2⟩
    · rw [if_pos h1, h2, if_pos (show (-9 : Int32) < 0 by decide), if_neg (show ¬ (1 : Int32) = 0 by decide), if_neg (show ¬ (1 : Int32) = 0 by decide)]
    · have h3 : ¬ s.2 < 0 := by
        rw [Int32.lt_iff_toInt_lt]
        rw [Int32.le_iff_toInt_le] at h2
        omega
      rw [if_neg h1, if_neg h3]
      by_cases h4 : s.2 ≤ apt (tC t p) (tC t q)
      · rw [if_pos h4, if_pos h4, if_pos (show (0 : Int32) = 0 from rfl), if_pos (show (0 : Int32) = 0 from rfl)]
      · rw [if_neg h4, if_neg h4, if_neg (show ¬ (1 : Int32) = 0 by decide), if_neg (show ¬ (1 : Int32) = 0 by decide)]
theorem m_neaO (R : MR h t) (V : tV t) (x : Int32) : ∀ (m p : Nat) (s : Int32 × Int32) (g g2 g3 : Option Value), p + m = tn t → neaV s → zrn X 1 m_M_nearest 31 [some (.ref 123), some (.int x), some (.int s.1), some (.int s.2), some (.int (nI p)), g, g2, g3] [] h = some (some (.int (if x = 0 then (neaO t m p s).1 else (neaO t m p s).2)), h) := by
  have hn := V.1
  intro m
  induction m with
  | zero =>
    intro p s g g2 g3 hp _
    rw [b_M_nearest_31, R.1, if_pos (nI_le (by omega) (by omega)), zI_ite]
    rfl
  | succ m ih =>
    intro p s g g2 g3 hp hv
    rw [b_M_nearest_31, R.1, if_neg (nI_ge (by omega) (by omega)), nI_add1]
    obtain ⟨g', g2', e⟩ := m_neaI (X := X) R V x (show p < tn t by omega) m (p + 1) s g2 g3 (by omega) hv
    rw [e, ih _ _ _ _ _ (by omega) (neaI_V V (by omega) m (p + 1) s (by omega) hv)]
    rfl
/-- 0 or 1 is asked of all: both refuse alike -/
theorem OK2.w01 {x r : Int32} {A B : zH → Option (Option Value × zH)} (hX : XP h w) (hM : MP h w) (V : WV w) (ex : zcf X mx [.ref 1, .int x] h = (if x < 0 then (zbI (zcf X m_X_refuse [.ref 1, .int (-2)] h) fun v2 h1 => (some (some (.int v2), h1))) else (if x ≤ 1 then A h else (zbI (zcf X m_X_refuse [.ref 1, .int (-2)] h) fun v4 h3 => (some (some (.int v4), h3)))))) (em : ∀ h : zH, zcf X mm [.ref 123, .int x] h = (zbI (zcf X m_M_in [.long (Int32.toInt64 x), .long 0, .long 1] ((zup h.1 123 7 0), h.2)) fun v2 h1 => (if v2 = 0 then (zbI (zcf X m_M_refuse [.ref 123, .int (-2)] h1) fun v4 h3 => (some (some (.int v4), h3))) else B h1))) (a : rg x 2 → A h = some (some (.int r), h)) (b : rg x 2 → ∀ H : zH, MP H w → B H = some (some (.int r), H)) : OK2 X mx mm [.int x] h := by
  by_cases q : ¬ x < 0 ∧ x ≤ 1
  · have hx : rg x 2 := by
      rw [rg_of (by decide)]
      have := r01.mp q
      omega
    refine OK2.q0 (r := r) hX hM V ?_ fun h1 H i1 i2 R => ?_
    · rw [ex, if_neg q.1, if_pos q.2]
      exact a hx
    · rw [em, i1, i2, m_inI (L := 0) (U := 1) (by decide) (by decide), zbI_some, if_pos (r01.mp q), if_neg (by decide)]
      exact b hx H R
  · refine OK2.no (x := -2) 2 hX hM V (by decide) (by decide) (by decide) ?_ fun h1 H i1 i2 R => ⟨H, ?_, R, FM.rf⟩
    · rw [ex]
      by_cases q1 : x < 0
      · rw [if_pos q1, zrx2]
      · rw [if_neg q1, if_neg (fun z => q ⟨q1, z⟩), zrx2]
    · rw [em, i1, i2, m_inI (L := 0) (U := 1) (by decide) (by decide), zbI_some, if_neg (fun z => q (r01.mpr z)), if_pos rfl, zrm2]
theorem ok_nearest (hX : XP h w) (hM : MP h w) (V : WV w) {x : Int32} : OK2 X m_X_nearest m_M_nearest [.int x] h :=
  OK2.w01 hX hM V e_X_nearest (fun _ => e_M_nearest) (fun _ => s_neaO hH_2 hX.1.1 V.1.1.1 x (tn (wt w)) 0 (-9, -9) none none (Nat.zero_add _)) (fun _ H R => m_neaO R.1.1 V.1.1 x (tn (wt w)) 0 (-9, -9) none none none (Nat.zero_add _) (Or.inl ⟨rfl, rfl⟩))
end z38
