/-! slept: the ways, the common divisor -/
def nL (n : Nat) : Int64 := Int64.ofNat n
theorem nL_toInt {n : Nat} (h : n < 2 ^ 63) : (nL n).toInt = n := Int64.toInt_ofNat_of_lt h
theorem nL_add (a b : Nat) : nL a + nL b = nL (a + b) := (Int64.ofNat_add a b).symm
theorem nL_mul (a b : Nat) : nL a * nL b = nL (a * b) := (Int64.ofNat_mul a b).symm
theorem nL_div {a b : Nat} (ha : a < 2 ^ 63) (hb : b < 2 ^ 63) : nL a / nL b = nL (a / b) := by
  have hc : a / b < 2 ^ 63 := Nat.lt_of_le_of_lt (Nat.div_le_self _ _) ha
  refine Int64.toInt_inj.mp ?_
  rw [Int64.toInt_div, nL_toInt ha, nL_toInt hb, nL_toInt hc]
  show (((a / b : Nat) : Int)).bmod (2 ^ 64) = _
  generalize a / b = q at hc ⊢
  exact Int.bmod_eq_of_le (by omega) (by omega)
theorem nL_rem {a b : Nat} (ha : a < 2 ^ 63) (hb : b < 2 ^ 63) : zrmL (nL a) (nL b) = nL (a % b) := by
  show nL a - nL a / nL b * nL b = _
  rw [nL_div ha hb, nL_mul]
  have e : nL a = nL (a % b) + nL (a / b * b) := by rw [nL_add]; congr 1; have := Nat.div_add_mod a b; rw [Nat.mul_comm] at this; omega
  rw [e, Int64.add_sub_cancel]
theorem nL_0 {b : Nat} (hb : b < 2 ^ 63) : nL b = 0 ↔ b = 0 := by
  constructor
  · intro h
    have := congrArg Int64.toInt h
    rw [nL_toInt hb] at this
    have e : (0 : Int64).toInt = 0 := by decide
    omega
  · rintro rfl; rfl
theorem cmp_0 {b : Nat} (hb : b < 2 ^ 63) : lg_cmp (nL b) 0 = 0 ↔ b = 0 := by
  rw [← nL_0 hb]
  unfold lg_cmp
  by_cases h : (0 : Int64) < nL b
  · rw [if_pos h]
    exact ⟨fun q => absurd q (by decide), fun q => by rw [q] at h; exact absurd h (by decide)⟩
  · rw [if_neg h]
    by_cases h2 : nL b = 0
    · rw [if_pos h2]; exact ⟨fun _ => h2, fun _ => rfl⟩
    · rw [if_neg h2]; exact ⟨fun q => absurd q (by decide), fun q => absurd q h2⟩
theorem cmp_1 {b : Nat} (hb : b < 2 ^ 63) : 0 ≤ lg_cmp (nL b) 1 ↔ 1 ≤ b := by
  rw [← Int32.not_lt, zcmp_lt, Int64.lt_iff_toInt_lt, nL_toInt hb]
  have e : (1 : Int64).toInt = 1 := by decide
  omega
theorem gcd_st (a b : Nat) : Nat.gcd b (a % b) = Nat.gcd a b := by
  rw [Nat.gcd_comm a b, Nat.gcd_rec b a, Nat.gcd_comm]
section z60
variable {X : zX} {h h0 : zH} {w : zW} {mx mm : zM} {as : List Value} {t : zT} {a : Nat}
theorem s_gcd {x0 x2 : Int64} : ∀ (k : Nat) (a b i : Nat) (g9 : Option Value), a < 2 ^ 63 → b < 2 ^ 63 → b < 2 ^ k → i + 2 * k + 1 ≤ 1000 → zrn X 0 m_X_commonDivisor 9 [some (.long x0), none, some (.long x2), none, some (.long (nL a)), none, some (.long (nL b)), none, some (.int (nI i)), g9, none] [] h = some (some (.long (nL (Nat.gcd a b))), h) := by
  intro k
  induction k with
  | zero =>
    intro a b i g9 ha hb hk hi
    have b0 : b = 0 := by omega
    subst b0
    rw [b_X_commonDivisor_9, if_neg (show ¬ (1000 : Int32) ≤ nI i from nI_ge (b := 1000) (by omega) (by omega)), if_pos ((cmp_0 hb).mpr rfl), Nat.gcd_zero_right]
  | succ k ih =>
    intro a b i g9 ha hb hk hi
    by_cases b0 : b = 0
    · subst b0
      rw [b_X_commonDivisor_9, if_neg (show ¬ (1000 : Int32) ≤ nI i from nI_ge (b := 1000) (by omega) (by omega)), if_pos ((cmp_0 hb).mpr rfl), Nat.gcd_zero_right]
    · have hr : a % b < b := Nat.mod_lt _ (by omega)
      rw [b_X_commonDivisor_9, if_neg (show ¬ (1000 : Int32) ≤ nI i from nI_ge (b := 1000) (by omega) (by omega)), if_neg (fun z => b0 ((cmp_0 hb).mp z)), if_neg (fun z => b0 ((nL_0 hb).mp z)), nL_rem ha hb, nI_add1, ← gcd_st a b]
      by_cases r0 : a % b = 0
      · rw [r0, b_X_commonDivisor_9, if_neg (show ¬ (1000 : Int32) ≤ nI (i + 1) from nI_ge (b := 1000) (by omega) (by omega)), if_pos ((cmp_0 (by decide)).mpr rfl), Nat.gcd_zero_right]
      · have hrr : a % b < 2 ^ 63 := Nat.lt_trans hr hb
        have hr2 : b % (a % b) < a % b := Nat.mod_lt _ (by omega)
        have hr3 : b % (a % b) + (a % b) ≤ b := by
          have := Nat.div_add_mod b (a % b)
          have h1 : 1 ≤ b / (a % b) := (Nat.one_le_div_iff (by omega)).mpr (by omega)
          have h2 : (a % b) * 1 ≤ (a % b) * (b / (a % b)) := Nat.mul_le_mul_left _ h1
          omega
        rw [b_X_commonDivisor_9, if_neg (show ¬ (1000 : Int32) ≤ nI (i + 1) from nI_ge (b := 1000) (by omega) (by omega)), if_neg (fun z => r0 ((cmp_0 hrr).mp z)), if_neg (fun z => r0 ((nL_0 hrr).mp z)), nL_rem hb hrr, nI_add1, ← gcd_st b (a % b)]
        exact ih (a % b) (b % (a % b)) (i + 1 + 1) _ hrr (by omega) (by rw [Nat.pow_succ] at hk; omega) (by omega)
theorem m_gcd {x0 x2 : Int64} : ∀ (k : Nat) (a b : Nat) (g8 : Option Value), a < 2 ^ 63 → b < 2 ^ 63 → b ≤ k → zrn X 0 m_M_divisor 6 [some (.long x0), none, some (.long x2), none, some (.long (nL a)), none, some (.long (nL b)), none, g8, none] [] h = some (some (.long (nL (Nat.gcd a b))), h) := by
  intro k
  induction k with
  | zero =>
    intro a b g8 ha hb hk
    have b0 : b = 0 := by omega
    subst b0
    rw [b_M_divisor_6, if_pos ((cmp_0 hb).mpr rfl), Nat.gcd_zero_right]
  | succ k ih =>
    intro a b g8 ha hb hk
    by_cases b0 : b = 0
    · subst b0
      rw [b_M_divisor_6, if_pos ((cmp_0 hb).mpr rfl), Nat.gcd_zero_right]
    · have hr : a % b < b := Nat.mod_lt _ (by omega)
      rw [b_M_divisor_6, if_neg (fun z => b0 ((cmp_0 hb).mp z)), if_neg (fun z => b0 ((nL_0 hb).mp z)), nL_rem ha hb, ← gcd_st a b]
      exact ih b (a % b) _ hb (by omega) (by omega)
end z60
/-! the starts do nothing to what comes -/
def wSS (t : zT) (s : zA) : zT := (t.1, t.2.1, t.2.2.1, t.2.2.2.1, t.2.2.2.2.1, s)
theorem act_SS {t : zT} {s : zA} {p : Nat} {r : Int32} : act (wSS t s) p r = (wSS (act t p r).1 s, (act t p r).2) := by
  have F : ∀ (c : Prop) [Decidable c] (x y : zT × Bool × Bool), (wSS (if c then x else y).1 s, (if c then x else y).2) = if c then (wSS x.1 s, x.2) else (wSS y.1 s, y.2) := fun c _ x y => by split <;> rfl
  unfold act stp
  simp only [F]
  rfl
theorem nightF_SS {sl : Int32} : ∀ (m p : Nat) (t : zT) (x y z : Int32) (s : zA), ∃ s', nightF sl m p (wSS t s) x y z = (wSS (nightF sl m p t x y z).1 s', (nightF sl m p t x y z).2) := by
  intro m
  induction m with
  | zero => intro p t x y z s; exact ⟨s, rfl⟩
  | succ m ih =>
    intro p t x y z s
    by_cases h1 : nI p = sl
    · have e : ∀ u, nightF sl (m + 1) p u x y z = nightF sl m (p + 1) u x y z := fun u => by show (if nI p = sl then _ else _) = _; rw [if_pos h1]
      rw [e, e]
      exact ih _ _ _ _ _ _
    · by_cases h2 : lns t p = -9
      · have e : ∀ u, lns u p = -9 → nightF sl (m + 1) p u x y z = nightF sl m (p + 1) u x y z := fun u hu => by show (if nI p = sl then _ else (if lns u p = -9 then _ else _)) = _; rw [if_neg h1, if_pos hu]
        rw [e _ h2, e (wSS t s) h2]
        exact ih _ _ _ _ _ _
      · have e : ∀ u, ¬ lns u p = -9 → nightF sl (m + 1) p u x y z = nightF sl m (p + 1) (act (wS u p (inc (tS u p))) p (lns u p)).1 (x ||| bt p) (y ||| (if (act (wS u p (inc (tS u p))) p (lns u p)).2.1 = true then bt p else 0)) (if (act (wS u p (inc (tS u p))) p (lns u p)).2.2 = true then z ||| bt p else z) := fun u hu => by show (if nI p = sl then _ else (if lns u p = -9 then _ else _)) = _; rw [if_neg h1, if_neg hu]
        rw [e _ h2, e (wSS t s) h2]
        have k : act (wS (wSS t s) p (inc (tS (wSS t s) p))) p (lns (wSS t s) p) = (wSS (act (wS t p (inc (tS t p))) p (lns t p)).1 (zua s p (inc (s p))), (act (wS t p (inc (tS t p))) p (lns t p)).2) := act_SS (t := wS t p (inc (tS t p))) (s := zua s p (inc (s p)))
        rw [k]
        exact ih _ _ _ _ _ _
theorem nightF_xyz {sl : Int32} : ∀ (m p : Nat) (t : zT) (x y z x' y' z' : Int32), (nightF sl m p t x y z).1 = (nightF sl m p t x' y' z').1 := by
  intro m
  induction m with
  | zero => intro p t x y z x' y' z'; rfl
  | succ m ih =>
    intro p t x y z x' y' z'
    unfold nightF
    split
    · exact ih _ _ _ _ _ _ _ _
    · split
      · exact ih _ _ _ _ _ _ _ _
      · exact ih _ _ _ _ _ _ _ _
theorem nI_9 {i : Nat} (h : i < 6) : ¬ nI i = -9 := ne9 (by omega)
/-- behind the one who sleeps nothing is otherwise -/
theorem nightF_beh {p : Nat} : ∀ (m i : Nat) (t : zT) (x y z : Int32), p < i → i + m ≤ 6 → (nightF (nI p) m i t x y z).1 = (nightF (-9) m i t x y z).1 := by
  intro m
  induction m with
  | zero => intro i t x y z _ _; rfl
  | succ m ih =>
    intro i t x y z h1 h2
    have n1 : ¬ nI i = nI p := fun q => absurd ((nI_eq (by omega) (by omega)).mp q) (by omega)
    have n2 : ¬ nI i = -9 := nI_9 (by omega)
    unfold nightF
    rw [if_neg n1, if_neg n2]
    split
    · exact ih _ _ _ _ _ (by omega) (by omega)
    · exact ih _ _ _ _ _ (by omega) (by omega)
theorem nightF_slp {p : Nat} : ∀ (m i : Nat) (t : zT) (x y z : Int32), i ≤ p → p < i + m → i + m ≤ tn t → tV t → rg y 64 → rg z 64 → (nightF (-9) m i t x y z).2.2.1 &&& bt p = 0 → ∃ s, (nightF (nI p) m i t x y z).1 = wSS (nightF (-9) m i t x y z).1 s := by
  intro m
  induction m with
  | zero => intro i t x y z h1 h2; omega
  | succ m ih =>
    intro i t x y z h1 h2 h3 V hy hz h4
    have h6 := V.1
    have n2 : ¬ nI i = -9 := nI_9 (by omega)
    have eA : lns t i = -9 → nightF (-9) (m + 1) i t x y z = nightF (-9) m (i + 1) t x y z := fun hu => by show (if nI i = -9 then _ else (if lns t i = -9 then _ else _)) = _; rw [if_neg n2, if_pos hu]
    have eB : ¬ lns t i = -9 → nightF (-9) (m + 1) i t x y z = nightF (-9) m (i + 1) (act (wS t i (inc (tS t i))) i (lns t i)).1 (x ||| bt i) (y ||| (if (act (wS t i (inc (tS t i))) i (lns t i)).2.1 = true then bt i else 0)) (if (act (wS t i (inc (tS t i))) i (lns t i)).2.2 = true then z ||| bt i else z) := fun hu => by show (if nI i = -9 then _ else (if lns t i = -9 then _ else _)) = _; rw [if_neg n2, if_neg hu]
    by_cases e : i = p
    · subst e
      have eP : nightF (nI i) (m + 1) i t x y z = nightF (nI i) m (i + 1) t x y z := by show (if nI i = nI i then _ else _) = _; rw [if_pos rfl]
      rw [eP, nightF_beh m (i + 1) t x y z (by omega) (by omega)]
      by_cases l : lns t i = -9
      · rw [eA l]
        exact ⟨(nightF (-9) m (i + 1) t x y z).1.2.2.2.2.2, rfl⟩
      · rw [eB l] at h4 ⊢
        have V1 := tV_inc V (p := i) (by omega)
        have c := act_ch V1 (p := i) (show i < tn t by omega) (lns t i)
        have v := act_V V1 (p := i) (show i < tn t by omega) (lns t i)
        generalize act (wS t i (inc (tS t i))) i (lns t i) = u at h4 c v ⊢
        have ez : (if u.2.2 = true then z ||| bt i else z) = z ||| (if u.2.2 = true then bt i else 0) := by
          by_cases s : u.2.2 = true
          · rw [if_pos s, if_pos s]
          · rw [if_neg s, if_neg s, i_or0]
        rw [ez] at h4 ⊢
        obtain ⟨i1, i2, -⟩ := nightF_ch (-9) m (i + 1) u.1 (x ||| bt i) (y ||| (if u.2.1 = true then bt i else 0)) (z ||| (if u.2.2 = true then bt i else 0)) (by rw [v.2]; show i + 1 + m ≤ tn t; omega) v.1 (rg_or hy (by omega)) (rg_or hz (by omega))
        rw [(i2 i (by omega) (Or.inl (by omega))).1] at h4
        have hb := ((bt_v hy (p := i) (by omega) (b := u.2.1)).1.mp h4).2
        have hu := c.1 hb
        obtain ⟨s', es⟩ := nightF_SS (sl := -9) m (i + 1) t x y z (tS (wS t i (inc (tS t i))))
        have ew : wS t i (inc (tS t i)) = wSS t (tS (wS t i (inc (tS t i)))) := rfl
        have e1 : (nightF (-9) m (i + 1) (wS t i (inc (tS t i))) x y z).1 = wSS (nightF (-9) m (i + 1) t x y z).1 s' := by
          rw [ew, es]
        refine ⟨(nightF (-9) m (i + 1) t x y z).1.2.2.2.2.2, ?_⟩
        rw [hu, nightF_xyz m (i + 1) (wS t i (inc (tS t i))) _ _ _ x y z, e1]
        rfl
    · have n1 : ¬ nI i = nI p := fun q => absurd ((nI_eq (by omega) (by omega)).mp q) e
      have eA' : lns t i = -9 → nightF (nI p) (m + 1) i t x y z = nightF (nI p) m (i + 1) t x y z := fun hu => by show (if nI i = nI p then _ else (if lns t i = -9 then _ else _)) = _; rw [if_neg n1, if_pos hu]
      have eB' : ¬ lns t i = -9 → nightF (nI p) (m + 1) i t x y z = nightF (nI p) m (i + 1) (act (wS t i (inc (tS t i))) i (lns t i)).1 (x ||| bt i) (y ||| (if (act (wS t i (inc (tS t i))) i (lns t i)).2.1 = true then bt i else 0)) (if (act (wS t i (inc (tS t i))) i (lns t i)).2.2 = true then z ||| bt i else z) := fun hu => by show (if nI i = nI p then _ else (if lns t i = -9 then _ else _)) = _; rw [if_neg n1, if_neg hu]
      by_cases l : lns t i = -9
      · rw [eA l] at h4 ⊢
        rw [eA' l]
        exact ih (i + 1) t x y z (by omega) (by omega) (by omega) V hy hz h4
      · rw [eB l] at h4 ⊢
        rw [eB' l]
        have v := act_V (tV_inc V (p := i) (by omega)) (p := i) (show i < tn t by omega) (lns t i)
        have ez : ∀ b : Bool, rg (if b = true then z ||| bt i else z) 64 := fun b => by
          have := rg_or hz (c := b = true) (p := i) (by omega)
          by_cases s : b = true
          · rw [if_pos s]; rw [if_pos s] at this; exact this
          · rw [if_neg s]; exact hz
        exact ih (i + 1) _ _ _ _ (by omega) (by omega) (by rw [v.2]; show i + 1 + m ≤ tn t; omega) v.1 (rg_or hy (by omega)) (ez _) h4
/-- the ways of so many nights, by their odds -/
def wyF (p : Nat) (f : Int32) (T : Nat) : Nat → zT → Nat
  | 0, t => if tD t p = f then 1 else 0
  | n + 1, t => (T - 1) * wyF p f T n (night t (-9)).1 + wyF p f T n (night t (nI p)).1
theorem wyF_s {p : Nat} {f : Int32} {T n : Nat} {t : zT} : wyF p f T (n + 1) t = (T - 1) * wyF p f T n (night t (-9)).1 + wyF p f T n (night t (nI p)).1 := rfl
theorem wyF_SS {p : Nat} {f : Int32} {T : Nat} : ∀ (n : Nat) (t : zT) (s : zA), wyF p f T n (wSS t s) = wyF p f T n t := by
  intro n
  induction n with
  | zero => intro t s; rfl
  | succ n ih =>
    intro t s
    have e : ∀ sl, ∃ s', (night (wSS t s) sl).1 = wSS (night t sl).1 s' := fun sl => by
      obtain ⟨s', es⟩ := nightF_SS (sl := sl) (tn t) 0 t 0 0 0 s
      exact ⟨s', congrArg Prod.fst es⟩
    obtain ⟨s1, e1⟩ := e (-9)
    obtain ⟨s2, e2⟩ := e (nI p)
    rw [wyF_s, wyF_s, e1, e2, ih, ih]
theorem wyF_still {p : Nat} {f : Int32} {T n : Nat} {t : zT} (hT : 1 ≤ T) (V : tV t) (hp : p < tn t) (h : (night t (-9)).2.2.1 &&& bt p = 0) : wyF p f T (n + 1) t = T * wyF p f T n (night t (-9)).1 := by
  obtain ⟨s, es⟩ := nightF_slp (p := p) (tn t) 0 t 0 0 0 (Nat.zero_le _) (by omega) (by omega) V ⟨0, by decide, rfl⟩ ⟨0, by decide, rfl⟩ h
  have : (night t (nI p)).1 = wSS (night t (-9)).1 s := es
  rw [wyF_s, this, wyF_SS]
  obtain ⟨T', rfl⟩ : ∃ T', T = T' + 1 := ⟨T - 1, by omega⟩
  rw [Nat.add_sub_cancel, Nat.add_mul, Nat.one_mul]
theorem wyF_le {p : Nat} {f : Int32} {T : Nat} (hT : 1 ≤ T) : ∀ (n : Nat) (t : zT), wyF p f T n t ≤ T ^ n := by
  intro n
  induction n with
  | zero => intro t; show (if tD t p = f then 1 else 0) ≤ 1; split <;> decide
  | succ n ih =>
    intro t
    have h1 := Nat.mul_le_mul_left (T - 1) (ih (night t (-9)).1)
    have h2 := ih (night t (nI p)).1
    rw [wyF_s, Nat.pow_succ]
    obtain ⟨T', rfl⟩ : ∃ T', T = T' + 1 := ⟨T - 1, by omega⟩
    rw [Nat.add_sub_cancel] at h1 ⊢
    rw [Nat.mul_add, Nat.mul_one, Nat.mul_comm _ T']
    omega
/-- one mask of sleeping -/
def wMF (p : Nat) (f : Int32) (T : Nat) : Nat → Nat → zT → Nat
  | 0, _, t => if tD t p = f then 1 else 0
  | n + 1, k, t => (if k % 2 = 1 then 1 else T - 1) * wMF p f T n (k / 2) (night t (if k % 2 = 1 then nI p else -9)).1
theorem wMF_s {p : Nat} {f : Int32} {T n k : Nat} {t : zT} : wMF p f T (n + 1) k t = (if k % 2 = 1 then 1 else T - 1) * wMF p f T n (k / 2) (night t (if k % 2 = 1 then nI p else -9)).1 := rfl
def smF (g : Nat → Nat) : Nat → Nat → Nat
  | 0, _ => 0
  | m + 1, k => g k + smF g m (k + 1)
theorem smF_s {g : Nat → Nat} {m k : Nat} : smF g (m + 1) k = g k + smF g m (k + 1) := rfl
theorem smF_2 {g : Nat → Nat} {A : Nat} {u v : Nat → Nat} (h0 : ∀ k, g (2 * k) = A * u k) (h1 : ∀ k, g (2 * k + 1) = v k) : ∀ (m k : Nat), smF g (2 * m) (2 * k) = A * smF u m k + smF v m k := by
  intro m
  induction m with
  | zero => intro k; show 0 = A * 0 + 0; omega
  | succ m ih =>
    intro k
    rw [show 2 * (m + 1) = 2 * m + 1 + 1 by omega, smF_s, smF_s, smF_s, smF_s, h0, h1, show 2 * k + 1 + 1 = 2 * (k + 1) by omega, ih, Nat.mul_add]
    omega
theorem smF_wy {p : Nat} {f : Int32} {T : Nat} : ∀ (n : Nat) (t : zT), smF (fun k => wMF p f T n k t) (2 ^ n) 0 = wyF p f T n t := by
  intro n
  induction n with
  | zero => intro t; exact Nat.add_zero _
  | succ n ih =>
    intro t
    rw [Nat.pow_succ, Nat.mul_comm]
    have := smF_2 (g := fun k => wMF p f T (n + 1) k t) (A := T - 1) (u := fun k => wMF p f T n k (night t (-9)).1) (v := fun k => wMF p f T n k (night t (nI p)).1) (fun k => by
      rw [wMF_s, show 2 * k % 2 = 0 by omega, show 2 * k / 2 = k by omega]
      rfl) (fun k => by
      rw [wMF_s, show (2 * k + 1) % 2 = 1 by omega, show (2 * k + 1) / 2 = k by omega, if_pos rfl, if_pos rfl, Nat.one_mul]) (2 ^ n) 0
    rw [Nat.mul_zero] at this
    rw [this, ih, ih, wyF_s]
theorem hb256 : ∀ A, A < 256 → ∀ k, k < 8 → (((nI A >>> (nI k &&& 31)) &&& 1) = 1 ↔ (A / 2 ^ k) % 2 = 1) := by decide +kernel
theorem t21 : ∀ T, T < 21 → (nI T).toInt64 = nL T ∧ (1 ≤ T → (nI T - 1).toInt64 = nL (T - 1)) := by decide +kernel
theorem p8 : ∀ n, n < 9 → (1 : Int32) <<< (nI n &&& 31) = nI (2 ^ n) := by decide +kernel
