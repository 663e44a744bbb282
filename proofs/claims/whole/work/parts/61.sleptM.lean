/-! slept: both sides -/
section z61
variable {X : zX} {h h0 : zH} {w : zW} {mx mm : zM} {as : List Value} {t : zT} {a : Nat}
/-- both sides answer a long alike -/
def OK2L (X : zX) (mx mm : zM) (as : List Value) (h : zH) : Prop := ∃ r h1 h2 w', zcf X mx (.ref 1 :: as) h = some (some (.long r), h1) ∧ zcf X mm (.ref 123 :: as) h1 = some (some (.long r), h2) ∧ XP h2 w' ∧ MP h2 w' ∧ WV w'
theorem OK2L.qy {r : Int64} (hX : XP h w) (hM : MP h w) (V : WV w) (sx : ∃ h1, zcf X mx (.ref 1 :: as) h = some (some (.long r), h1) ∧ FM pXq h h1) (sm : ∀ h1 H : zH, zup h1.1 123 7 0 = H.1 → h1.2 = H.2 → MP H w → ∃ h2, zcf X mm (.ref 123 :: as) h1 = some (some (.long r), h2) ∧ MP h2 w ∧ FM pMa H h2) : OK2L X mx mm as h := by
  obtain ⟨h1, a1, a2⟩ := sx
  have R1 : MP h1 w := hM.oth V (a2.mono fun _ _ => pXq_a)
  obtain ⟨h2, b1, b2, b3⟩ := sm h1 (zup h1.1 123 7 0, h1.2) rfl rfl (R1.th V)
  exact ⟨r, h1, h2, w, a1, b1, (hX.qry a2).oth (FM.tr (FM.up (by unfold pMa; decide)) b3), b2, V⟩
theorem OK2L.no (k : Nat) {x : Int32} (hX : XP h w) (hM : MP h w) (V : WV w) (hk1 : 1 ≤ k) (hk7 : k < 7) (hx : -x = nI k) (sx : zcf X mx (.ref 1 :: as) h = (zbI (zcf X m_X_refuse [.ref 1, .int x] h) fun v4 h3 => (some (some (.long (4000000000000000000 - (Int32.toInt64 v4))), h3)))) (sm : ∀ h1 H : zH, zup h1.1 123 7 0 = H.1 → h1.2 = H.2 → MP H w → zcf X mm (.ref 123 :: as) h1 = (zbI (zcf X m_M_refuse [.ref 123, .int x] H) fun v4 h3 => (some (some (.long (4000000000000000000 - (Int32.toInt64 v4))), h3)))) : OK2L X mx mm as h := by
  have hx1 : XP (zup h.1 74 k (h.1 74 k + 1), h.2) (zrfs w k) := hX.rfs hk7 hk1
  have f1 : FM pXa h (zup h.1 74 k (h.1 74 k + 1), h.2) := FM.up (by unfold pXa; decide)
  have R1 : MP (zup h.1 74 k (h.1 74 k + 1), h.2) w := hM.oth V f1
  have R2 := R1.th V (v := 0)
  refine ⟨4000000000000000000 - (Int32.toInt64 x), (zup h.1 74 k (h.1 74 k + 1), h.2), _, zrfs w k, ?_, ?_, ?_, R2.rfs hk7 hk1, V⟩
  · rw [sx, s_refuse hk1 hk7 hx, zbI_some]
  · rw [sm (zup h.1 74 k (h.1 74 k + 1), h.2) (zup (zup h.1 74 k (h.1 74 k + 1)) 123 7 0, h.2) rfl rfl R2, m_refuse hk1 hk7 hx, zbI_some]
  · exact hx1.oth (FM.tr (h1 := (zup (zup h.1 74 k (h.1 74 k + 1)) 123 7 0, h.2)) (FM.up (by unfold pMa; decide)) (FM.up (by unfold pMa; decide)))
/-- what slept looks ahead in -/
def pD (n b _ : Nat) : Prop := 75 ≤ b ∧ b < 75 + 6 * n
theorem s_ways {p T : Nat} {f : Int32} (hT : 1 ≤ T) (hT2 : T < 21) : ∀ (n a : Nat) (t : zT) (h : zH), n ≤ 8 → isH a → HR h a t → tV t → p < tn t → (a + 5 < 75 ∨ 75 + 6 * n ≤ a) → ∃ h', zcf X m_X_waysToFace [.ref a, .ref 14, .int (nI n), .int (nI p), .int f, .int (nI T)] h = some (some (.long (nL (wyF p f T n t))), h') ∧ FM (pD n) h h' := by
  intro n
  induction n with
  | zero =>
    intro a t h _ H R V hp _
    refine ⟨h, ?_, FM.rf⟩
    rw [show nI 0 = 0 from rfl, e_X_ways_0 H, s_facesOf H R V.1 hp, zbI_some]
    show _ = some (some (Value.long (nL (if tD t p = f then 1 else 0))), h)
    by_cases e : tD t p = f
    · rw [if_pos e, if_pos e]; rfl
    · rw [if_neg e, if_neg e]; rfl
  | succ n ih =>
    intro a t h hn H R V hp ha
    have h6 := V.1
    have Hd := hH_d (n := n) (by omega)
    obtain ⟨h1, a1, a2, a3, a4⟩ := s_become (X := X) Hd H (by omega) R h6
    obtain ⟨h2, b1, b2, b3, b4, b5, b6⟩ := s_night (X := X) Hd a2 V (-9)
    have nv := night_V V (-9)
    obtain ⟨h3, c1, c2⟩ := ih (75 + 6 * n) (night t (-9)).1 h2 (by omega) Hd b2 nv.1 (by rw [nv.2]; exact hp) (Or.inr (Nat.le_refl _))
    have F1 : FM (pD (n + 1)) h h2 := (a4.fm fun b j h1 h2 => by unfold pD; omega).tr (b6.fm fun b j h1 h2 => by unfold pD; omega)
    have F3 : FM (pD (n + 1)) h h3 := F1.tr (c2.mono fun b j z => by unfold pD at z ⊢; omega)
    rw [e_X_ways_s H (by omega), a1, zbV_some, b1, zbV_some, s_bitOf (show p < 32 by omega), zbI_some, c1, zbL_some, b01', b4]
    by_cases z : (night t (-9)).2.2.1 &&& bt p = 0
    · refine ⟨h3, ?_, F3⟩
      rw [if_pos z, (t21 T hT2).1, nL_mul, wyF_still hT V hp z]
    · rw [if_neg z]
      have R3 : HR h3 a t := R.of fun b j h1 h2 => F3 b j (by unfold pD; omega)
      obtain ⟨h4, d1, d2, d3, d4⟩ := s_become (X := X) Hd H (by omega) R3 h6
      obtain ⟨h5, e1, e2, e3, e4, e5, e6⟩ := s_night (X := X) Hd d2 V (nI p)
      have nv2 := night_V V (nI p)
      obtain ⟨h7, g1, g2⟩ := ih (75 + 6 * n) (night t (nI p)).1 h5 (by omega) Hd e2 nv2.1 (by rw [nv2.2]; exact hp) (Or.inr (Nat.le_refl _))
      refine ⟨h7, ?_, F3.tr ((d4.fm fun b j h1 h2 => by unfold pD; omega).tr ((e6.fm fun b j h1 h2 => by unfold pD; omega).tr (g2.mono fun b j z => by unfold pD at z ⊢; omega)))⟩
      rw [d1, zbV_some, e1, zbV_some, g1, zbL_some, (t21 T hT2).2 hT, nL_mul, nL_add, wyF_s]
theorem s_pow {n T : Nat} (hn : n ≤ 8) (hT : T < 21) {p : Nat} {f y : Int32} : ∀ (m i u : Nat), i + m = n → zrn X 14 m_X_slept 105 [some (.ref 1), some (.int (nI p)), some (.int f), some (.int (nI n)), some (.int (nI T)), some (.int y), some (.long (nL u)), none, some (.int (nI i)), none, none, none] [] h = zrn X 14 m_X_slept 105 [some (.ref 1), some (.int (nI p)), some (.int f), some (.int (nI n)), some (.int (nI T)), some (.int y), some (.long (nL (u * T ^ m))), none, some (.int (nI n)), none, none, none] [] h := by
  intro m
  induction m with
  | zero =>
    intro i u hi
    rw [show i = n by omega, Nat.pow_zero, Nat.mul_one]
  | succ m ih =>
    intro i u hi
    rw [b_X_slept_105, if_neg (nI_ge (by omega) (by omega)), (t21 T hT).1, nL_mul, nI_add1, ih (i + 1) _ (by omega), Nat.pow_succ, Nat.mul_assoc, Nat.mul_comm T]
theorem m_pow {n T : Nat} (hn : n ≤ 8) (hT : T < 21) {p : Nat} {f y x6 : Int32} : ∀ (m i u : Nat), i + m = n → zrn X 6 m_M_slept 104 [some (.ref 123), some (.int (nI p)), some (.int f), some (.int (nI n)), some (.int (nI T)), some (.int y), some (.int x6), some (.long 0), none, some (.long (nL u)), none, some (.int (nI i)), none, none, none] [] h = zrn X 6 m_M_slept 104 [some (.ref 123), some (.int (nI p)), some (.int f), some (.int (nI n)), some (.int (nI T)), some (.int y), some (.int x6), some (.long 0), none, some (.long (nL (u * T ^ m))), none, some (.int (nI n)), none, none, none] [] h := by
  intro m
  induction m with
  | zero =>
    intro i u hi
    rw [show i = n by omega, Nat.pow_zero, Nat.mul_one]
  | succ m ih =>
    intro i u hi
    rw [b_M_slept_104, if_neg (nI_ge (by omega) (by omega)), (t21 T hT).1, nL_mul, nI_add1, ih (i + 1) _ (by omega), Nat.pow_succ, Nat.mul_assoc, Nat.mul_comm T]
/-- one mask -/
theorem m_wMF {n T A p : Nat} {f y x6 : Int32} {x9 : Int64} {c : Nat} (hn : n ≤ 8) (hT : 1 ≤ T) (hT2 : T < 21) (hA : A < 256) : ∀ (m k u : Nat) (t : zT) (h : zH), k + m = n → p < tn t → TH h0 t h → ∃ h' g12 g14, zrn X 6 m_M_slept 145 [some (.ref 123), some (.int (nI p)), some (.int f), some (.int (nI n)), some (.int (nI T)), some (.int y), some (.int x6), some (.long (nL c)), none, some (.long x9), none, some (.int (nI A)), some (.long (nL u)), none, some (.int (nI k))] [] h = zrn X 6 m_M_slept 131 [some (.ref 123), some (.int (nI p)), some (.int f), some (.int (nI n)), some (.int (nI T)), some (.int y), some (.int x6), some (.long (nL (c + u * wMF p f T m (A / 2 ^ k) t))), none, some (.long x9), none, some (.int (nI (A + 1))), g12, none, g14] [] h' ∧ BK h0 h' := by
  intro m
  induction m with
  | zero =>
    intro k u t h hk hp D
    have h6 := D.2.2.1
    obtain ⟨h1, a1, a2⟩ := D.bk (X := X)
    refine ⟨h1, some (.long (nL u)), some (.int (nI k)), ?_, a2⟩
    rw [b_M_slept_145, if_pos (nI_le (by omega) (by omega)), if_pos (zin_nI (by omega) (by decide)), a1, zbV_some, nI_clamp (by omega), (D.1.2 p hp).2.2.2.1, nI_add1]
    have : nL c + (if tD t p = f then nL u else 0) = nL (c + u * wMF p f T 0 (A / 2 ^ k) t) := by
      show _ = nL (c + u * (if tD t p = f then 1 else 0))
      by_cases e : tD t p = f
      · rw [if_pos e, if_pos e, Nat.mul_one, nL_add]
      · rw [if_neg e, if_neg e, Nat.mul_zero, Nat.add_zero]
        exact Int64.add_zero _
    rw [this]
  | succ m ih =>
    intro k u t h hk hp D
    have h6 := D.2.2.1
    have hb : ∀ h : zH, zcf X m_M_hasBit [.int (nI A), .int (nI k)] h = some (some (.int (if (A / 2 ^ k) % 2 = 1 then 1 else 0)), h) := fun h => by
      rw [e_M_hasBit, zI_ite]
      by_cases e : (A / 2 ^ k) % 2 = 1
      · rw [if_pos e, if_pos ((hb256 A hA k (by omega)).mpr e)]
      · rw [if_neg e, if_neg (fun z => e ((hb256 A hA k (by omega)).mp z))]
    obtain ⟨h1, a1, a2, -⟩ := D.night (X := X) (if (A / 2 ^ k) % 2 = 1 then nI p else -9)
    have nv := night_V D.2.2 (if (A / 2 ^ k) % 2 = 1 then nI p else -9)
    obtain ⟨h2, g12, g14, b1, b2⟩ := ih (k + 1) (u * (if (A / 2 ^ k) % 2 = 1 then 1 else T - 1)) _ h1 (by omega) (by rw [nv.2]; exact hp) a2
    refine ⟨h2, g12, g14, ?_, b2⟩
    rw [b_M_slept_145, if_neg (nI_ge (by omega) (by omega)), hb, zbI_some, hb, zbI_some]
    have e1 : (if (if (A / 2 ^ k) % 2 = 1 then (1 : Int32) else 0) = 0 then (-9 : Int32) else nI p) = (if (A / 2 ^ k) % 2 = 1 then nI p else -9) := by
      by_cases e : (A / 2 ^ k) % 2 = 1
      · rw [if_pos e, if_pos e, if_neg (by decide)]
      · rw [if_neg e, if_neg e, if_pos rfl]
    have e2 : nL u * (if (if (A / 2 ^ k) % 2 = 1 then (1 : Int32) else 0) = 0 then (Int32.toInt64 (nI T - 1)) else 1) = nL (u * (if (A / 2 ^ k) % 2 = 1 then 1 else T - 1)) := by
      by_cases e : (A / 2 ^ k) % 2 = 1
      · rw [if_pos e, if_pos e, if_neg (by decide), ← nL_mul]; rfl
      · rw [if_neg e, if_neg e, if_pos rfl, (t21 T hT2).2 hT, nL_mul]
    rw [e1, a1, zbV_some, e2, nI_add1, b1, wMF_s, Nat.div_div_eq_div_mul, ← Nat.pow_succ, Nat.mul_assoc]
theorem m_smF {n T p : Nat} {f y x6 : Int32} {x9 : Int64} (R0 : MP h0 w) (V : WV w) (hn : n ≤ 8) (hT : 1 ≤ T) (hT2 : T < 21) (hp : p < tn (wt w)) : ∀ (m A c : Nat) (h : zH) (g12 g14 : Option Value), A + m = 2 ^ n → BK h0 h → ∃ h', zrn X 6 m_M_slept 131 [some (.ref 123), some (.int (nI p)), some (.int f), some (.int (nI n)), some (.int (nI T)), some (.int y), some (.int x6), some (.long (nL c)), none, some (.long x9), none, some (.int (nI A)), g12, none, g14] [] h = (zbL (zcf X m_M_partOf [.long (nL (c + smF (fun k => wMF p f T n k (wt w)) m A)), .long x9, .int y] h') fun v2 h1 => (some (some (.long v2), h1))) ∧ BK h0 h' := by
  have h256 : 2 ^ n ≤ 256 := Nat.pow_le_pow_right (by decide) hn
  intro m
  induction m with
  | zero =>
    intro A c h g12 g14 hA K
    refine ⟨h, ?_, K⟩
    rw [b_M_slept_131, p8 n (by omega), if_pos (nI_le (by omega) (by omega))]
    rfl
  | succ m ih =>
    intro A c h g12 g14 hA K
    obtain ⟨h1, g12', g14', a1, a2⟩ := m_wMF (X := X) (n := n) (T := T) (A := A) (p := p) (f := f) (y := y) (x6 := x6) (x9 := x9) (c := c) (h0 := h0) hn hT hT2 (by omega) n 0 1 (wt w) h (Nat.zero_add _) hp (K.th R0 V)
    obtain ⟨h2, b1, b2⟩ := ih (A + 1) (c + wMF p f T n A (wt w)) h1 g12' g14' (by omega) a2
    refine ⟨h2, ?_, b2⟩
    rw [b_M_slept_131, p8 n (by omega), if_neg (nI_ge (by omega) (by omega)), show zrn X 6 m_M_slept 145 [some (.ref 123), some (.int (nI p)), some (.int f), some (.int (nI n)), some (.int (nI T)), some (.int y), some (.int x6), some (.long (nL c)), none, some (.long x9), none, some (.int (nI A)), some (.long 1), none, some (.int 0)] [] h = _ from a1, Nat.pow_zero, Nat.div_one, Nat.one_mul, b1, smF_s, Nat.add_assoc]
/-- the part that is asked of a fraction -/
def ptO (A B : Nat) (y : Int32) : Int64 := if A = 0 then Int32.toInt64 y else (if y = 0 then nL A / nL (Nat.gcd A B) else nL B / nL (Nat.gcd A B))
theorem m_partOf {A B : Nat} (hA : A < 2 ^ 63) (hB : B < 2 ^ 63) (hB1 : 1 ≤ B) {y : Int32} : zcf X m_M_partOf [.long (nL A), .long (nL B), .int y] h = some (some (.long (ptO A B y)), h) := by
  have hg : Nat.gcd A B < 2 ^ 63 := Nat.lt_of_le_of_lt (Nat.le_of_dvd hB1 (Nat.gcd_dvd_right A B)) hB
  have hg1 : ¬ nL (Nat.gcd A B) = 0 := fun z => by
    have := (nL_0 hg).mp z
    have := Nat.gcd_pos_of_pos_right A hB1
    omega
  unfold ptO
  rw [e_M_partOf]
  by_cases a0 : A = 0
  · rw [if_pos a0, if_pos ((cmp_0 hA).mpr a0)]
  · rw [if_neg a0, if_neg (fun z => a0 ((cmp_0 hA).mp z)), e_M_divisor, m_gcd B A B none hA hB (Nat.le_refl _), zbL_some, if_neg hg1, if_neg hg1]
    by_cases y0 : y = 0
    · rw [if_pos y0, if_pos y0]
    · rw [if_neg y0, if_neg y0]
theorem s_part {A B : Nat} (hA : A < 2 ^ 63) (hB : B < 2 ^ 40) (hB1 : 1 ≤ B) {y : Int32} (hy : y = 0 ∨ y = 1) : (zbL (zcf X m_X_commonDivisor [.long (nL A), .long (nL B)] h) fun v5 h4 => (if 0 ≤ (lg_cmp v5 1) then (if y = 0 then (if v5 = 0 then none else (some (some (.long (nL A / v5)), h4))) else (if v5 = 0 then none else (some (some (.long (nL B / v5)), h4)))) else (some (some (.long (Int32.toInt64 y)), h4)))) = some (some (.long (ptO A B y)), h) := by
  have hB63 : B < 2 ^ 63 := by omega
  have hg : Nat.gcd A B < 2 ^ 63 := Nat.lt_of_le_of_lt (Nat.le_of_dvd hB1 (Nat.gcd_dvd_right A B)) hB63
  have hgp := Nat.gcd_pos_of_pos_right A hB1
  have hg1 : ¬ nL (Nat.gcd A B) = 0 := fun z => by
    have := (nL_0 hg).mp z
    omega
  rw [e_X_commonDivisor, show zrn X 0 m_X_commonDivisor 9 [some (.long (nL A)), none, some (.long (nL B)), none, some (.long (nL A)), none, some (.long (nL B)), none, some (.int 0), none, none] [] h = _ from s_gcd 40 A B 0 none hA hB63 hB (by decide), zbL_some, if_pos ((cmp_1 hg).mpr hgp), if_neg hg1, if_neg hg1]
  unfold ptO
  by_cases a0 : A = 0
  · rw [if_pos a0, a0, Nat.gcd_zero_left, nL_div (by decide) hB63, Nat.zero_div, nL_div hB63 hB63, Nat.div_self hB1]
    rcases hy with rfl | rfl
    · rw [if_pos rfl]; rfl
    · rw [if_neg (by decide)]; rfl
  · rw [if_neg a0]
    by_cases y0 : y = 0
    · rw [if_pos y0, if_pos y0]
    · rw [if_neg y0, if_neg y0]
theorem ok_slept (hX : XP h w) (hM : MP h w) (V : WV w) {x f n T y : Int32} : OK2L X m_X_slept m_M_slept [.int x, .int f, .int n, .int T, .int y] h := by
  have h6 : tn (wt w) ≤ 6 := V.1.1.1
  have wb : ∀ (v : Int32) (h : zH), zcf X m_M_wrongBit [.int v, .int y, .int 1] h = some (some (.int (@ite _ (v = 0 ∧ ¬ rg y (1 + 1)) (Classical.propDecidable _) (-2) v)), h) := fun v h => m_wrongBit (last := 1) (by decide)
  have e2 : (2 : Int32).toInt = 2 := by decide
  have e8 : (8 : Int32).toInt = 8 := by decide
  have e20 : (20 : Int32).toInt = 20 := by decide
  by_cases hx : rg x (tn (wt w))
  · obtain ⟨p, hp, rfl⟩ := hx
    have one : ∀ H : zH, MP H w → zcf X m_M_isOne [.ref 123, .int (nI p)] H = some (some (.int 1), H) := fun H R => m_isOne1 R.1.1 h6 hp
    by_cases hf : rg f 4
    · have hf' := hf
      rw [rg_of (by decide)] at hf'
      have mf : ∀ H : zH, zcf X m_M_in [.long (Int32.toInt64 f), .long 0, .long 3] H = some (some (.int 1), H) := fun H => by
        rw [m_inI (L := 0) (U := 3) (by decide) (by decide), if_pos (show (0 : Int) ≤ f.toInt ∧ f.toInt ≤ 3 by omega)]
      by_cases n0 : n < 0
      · refine OK2L.no (x := -4) 4 hX hM V (by decide) (by decide) (by decide) ?_ fun h1' H i1 i2 R => ?_
        · rw [e_X_slept, s_has1 hH_2 hX.1.1 h6 hp, zbI_some, if_neg (show ¬ (1 : Int32) = 0 by decide), s_isWay.1 hf, zbI_some, if_neg (show ¬ (1 : Int32) = 0 by decide), if_pos n0]
        · rw [e_M_slept, i1, i2, one (H.1, H.2) R, zbI_some, if_neg (show ¬ (1 : Int32) = 0 by decide), mf, zbI_some, if_neg (show ¬ (1 : Int32) = 0 by decide), if_pos n0, wb, zbI_some, if_neg (show ¬ ((-4 : Int32) = 0 ∧ ¬ rg y (1 + 1)) from fun q => absurd q.1 (by decide)), if_neg (show ¬ (0 : Int32) ≤ -4 by decide)]
      · by_cases t2 : 2 ≤ T
        · by_cases n8 : 8 < n
          · refine OK2L.no (x := -6) 6 hX hM V (by decide) (by decide) (by decide) ?_ fun h1' H i1 i2 R => ?_
            · rw [e_X_slept, s_has1 hH_2 hX.1.1 h6 hp, zbI_some, if_neg (show ¬ (1 : Int32) = 0 by decide), s_isWay.1 hf, zbI_some, if_neg (show ¬ (1 : Int32) = 0 by decide), if_neg n0, if_pos t2, if_pos n8]
            · rw [e_M_slept, i1, i2, one (H.1, H.2) R, zbI_some, if_neg (show ¬ (1 : Int32) = 0 by decide), mf, zbI_some, if_neg (show ¬ (1 : Int32) = 0 by decide), if_neg n0, if_pos t2, if_pos n8, wb, zbI_some, if_neg (show ¬ ((-6 : Int32) = 0 ∧ ¬ rg y (1 + 1)) from fun q => absurd q.1 (by decide)), if_neg (show ¬ (0 : Int32) ≤ -6 by decide)]
          · by_cases t20 : T ≤ 20
            · by_cases hy : rg y 2
              · have hy' := hy
                rw [rg_of (by decide)] at hy'
                have hy01 : y = 0 ∨ y = 1 := by
                  obtain ⟨j, hj, ej⟩ := hy
                  have : j = 0 ∨ j = 1 := by omega
                  rcases this with rfl | rfl
                  · exact Or.inl ej
                  · exact Or.inr ej
                obtain ⟨N, hN, rfl⟩ : rg n 9 := by
                  rw [rg_of (by decide)]
                  rw [lt0_iff] at n0
                  rw [Int32.lt_iff_toInt_lt] at n8
                  omega
                obtain ⟨K, hK, rfl⟩ : rg T 21 := by
                  rw [rg_of (by decide)]
                  rw [Int32.le_iff_toInt_le] at t2 t20
                  omega
                have hK1 : 1 ≤ K := by
                  have := Int32.le_iff_toInt_le.mp t2
                  rw [nI_toInt (by omega)] at this
                  omega
                have hB : K ^ N < 2 ^ 40 := Nat.lt_of_le_of_lt (Nat.le_trans (Nat.pow_le_pow_left (show K ≤ 20 by omega) N) (Nat.pow_le_pow_right (by decide) (show N ≤ 8 by omega))) (by decide)
                have hB1 : 1 ≤ K ^ N := Nat.pow_pos (by omega)
                have hA := wyF_le (p := p) (f := f) hK1 N (wt w)
                obtain ⟨h1, a1, a2⟩ := s_mind (X := X) hX V
                obtain ⟨h2, b1, b2⟩ := s_ways (X := X) (p := p) (T := K) (f := f) hK1 hK N 8 (wt w) h1 (by omega) hH_8 a2.1 a2.2.2 hp (Or.inl (by decide))
                refine OK2L.qy (r := ptO (wyF p f K N (wt w)) (K ^ N) y) hX hM V ⟨h2, ?_, a2.2.1.tr (b2.mono fun b j z => by unfold pD at z; unfold pXq; omega)⟩ fun h1' H i1 i2 R => ?_
                · rw [e_X_slept, s_has1 hH_2 hX.1.1 h6 hp, zbI_some, if_neg (show ¬ (1 : Int32) = 0 by decide), s_isWay.1 hf, zbI_some, if_neg (show ¬ (1 : Int32) = 0 by decide), if_neg n0, if_pos t2, if_neg n8, if_pos t20, if_neg (show ¬ y < 0 from fun q => absurd (lt0_iff.mp q) (by omega)), if_pos (show y ≤ (1 : Int32) from (nI_le' (n := 1) (by decide)).mpr (by omega)), show zrn X 14 m_X_slept 105 [some (.ref 1), some (.int (nI p)), some (.int f), some (.int (nI N)), some (.int (nI K)), some (.int y), some (.long 1), none, some (.int 0), none, none, none] [] h = _ from s_pow (by omega) hK N 0 1 (Nat.zero_add _), b_X_slept_105, if_pos (nI_le (Nat.le_refl _) (by omega)), a1, zbV_some, b1, zbL_some, Nat.one_mul]
                  exact s_part (by omega) hB hB1 hy01
                · obtain ⟨h3, c1, c2⟩ := m_think2 (X := X) H
                  obtain ⟨h4, d1, d2⟩ := m_smF (X := X) (n := N) (T := K) (p := p) (f := f) (y := y) (x6 := 0) (x9 := nL (1 * K ^ N)) R V (by omega) hK1 hK hp (2 ^ N) 0 0 h3 none none (Nat.zero_add _) c2
                  refine ⟨h4, ?_, d2.mp R V, d2.pM⟩
                  rw [e_M_slept, i1, i2, one (H.1, H.2) R, zbI_some, if_neg (show ¬ (1 : Int32) = 0 by decide), mf, zbI_some, if_neg (show ¬ (1 : Int32) = 0 by decide), if_neg n0, if_pos t2, if_neg n8, if_pos t20, wb, zbI_some, if_neg (show ¬ ((0 : Int32) = 0 ∧ ¬ rg y (1 + 1)) from fun q => q.2 hy), if_pos (show (0 : Int32) ≤ 0 by decide), show zrn X 6 m_M_slept 104 [some (.ref 123), some (.int (nI p)), some (.int f), some (.int (nI N)), some (.int (nI K)), some (.int y), some (.int 0), some (.long 0), none, some (.long 1), none, some (.int 0), none, none, none] [] (H.1, H.2) = _ from m_pow (by omega) hK N 0 1 (Nat.zero_add _), b_M_slept_104, if_pos (nI_le (Nat.le_refl _) (by omega)), show zcf X m_M_think [.ref 123] (H.1, H.2) = _ from c1, zbV_some]
                  refine d1.trans ?_
                  rw [Nat.zero_add, smF_wy, Nat.one_mul, m_partOf (by omega) (by omega) hB1, zbL_some]
              · have hy' := hy
                rw [rg_of (by decide)] at hy'
                refine OK2L.no (x := -2) 2 hX hM V (by decide) (by decide) (by decide) ?_ fun h1' H i1 i2 R => ?_
                · rw [e_X_slept, s_has1 hH_2 hX.1.1 h6 hp, zbI_some, if_neg (show ¬ (1 : Int32) = 0 by decide), s_isWay.1 hf, zbI_some, if_neg (show ¬ (1 : Int32) = 0 by decide), if_neg n0, if_pos t2, if_neg n8, if_pos t20]
                  by_cases y0 : y < 0
                  · rw [if_pos y0]
                  · rw [if_neg y0, if_neg (show ¬ y ≤ 1 from fun q => by
                      have z1 := (nI_le' (n := 1) (by decide)).mp q
                      have z2 : ¬ y.toInt < 0 := fun q => y0 (lt0_iff.mpr q)
                      omega)]
                · rw [e_M_slept, i1, i2, one (H.1, H.2) R, zbI_some, if_neg (show ¬ (1 : Int32) = 0 by decide), mf, zbI_some, if_neg (show ¬ (1 : Int32) = 0 by decide), if_neg n0, if_pos t2, if_neg n8, if_pos t20, wb, zbI_some, if_pos (show ((0 : Int32) = 0 ∧ ¬ rg y (1 + 1)) from ⟨rfl, hy⟩), if_neg (show ¬ (0 : Int32) ≤ -2 by decide)]
            · refine OK2L.no (x := -6) 6 hX hM V (by decide) (by decide) (by decide) ?_ fun h1' H i1 i2 R => ?_
              · rw [e_X_slept, s_has1 hH_2 hX.1.1 h6 hp, zbI_some, if_neg (show ¬ (1 : Int32) = 0 by decide), s_isWay.1 hf, zbI_some, if_neg (show ¬ (1 : Int32) = 0 by decide), if_neg n0, if_pos t2, if_neg n8, if_neg t20]
              · rw [e_M_slept, i1, i2, one (H.1, H.2) R, zbI_some, if_neg (show ¬ (1 : Int32) = 0 by decide), mf, zbI_some, if_neg (show ¬ (1 : Int32) = 0 by decide), if_neg n0, if_pos t2, if_neg n8, if_neg t20, wb, zbI_some, if_neg (show ¬ ((-6 : Int32) = 0 ∧ ¬ rg y (1 + 1)) from fun q => absurd q.1 (by decide)), if_neg (show ¬ (0 : Int32) ≤ -6 by decide)]
        · refine OK2L.no (x := -4) 4 hX hM V (by decide) (by decide) (by decide) ?_ fun h1' H i1 i2 R => ?_
          · rw [e_X_slept, s_has1 hH_2 hX.1.1 h6 hp, zbI_some, if_neg (show ¬ (1 : Int32) = 0 by decide), s_isWay.1 hf, zbI_some, if_neg (show ¬ (1 : Int32) = 0 by decide), if_neg n0, if_neg t2]
          · rw [e_M_slept, i1, i2, one (H.1, H.2) R, zbI_some, if_neg (show ¬ (1 : Int32) = 0 by decide), mf, zbI_some, if_neg (show ¬ (1 : Int32) = 0 by decide), if_neg n0, if_neg t2, wb, zbI_some, if_neg (show ¬ ((-4 : Int32) = 0 ∧ ¬ rg y (1 + 1)) from fun q => absurd q.1 (by decide)), if_neg (show ¬ (0 : Int32) ≤ -4 by decide)]
    · have hf' := hf
      rw [rg_of (by decide)] at hf'
      refine OK2L.no (x := -1) 1 hX hM V (by decide) (by decide) (by decide) ?_ fun h1' H i1 i2 R => ?_
      · rw [e_X_slept, s_has1 hH_2 hX.1.1 h6 hp, zbI_some, if_neg (show ¬ (1 : Int32) = 0 by decide), s_isWay.2 hf, zbI_some, if_pos (show (0 : Int32) = 0 from rfl)]
      · rw [e_M_slept, i1, i2, one (H.1, H.2) R, zbI_some, if_neg (show ¬ (1 : Int32) = 0 by decide), m_inI (L := 0) (U := 3) (by decide) (by decide), zbI_some, if_neg (show ¬ ((0 : Int) ≤ f.toInt ∧ f.toInt ≤ 3) by omega), if_pos (show (0 : Int32) = 0 from rfl), wb, zbI_some, if_neg (show ¬ ((-1 : Int32) = 0 ∧ ¬ rg y (1 + 1)) from fun q => absurd q.1 (by decide)), if_neg (show ¬ (0 : Int32) ≤ -1 by decide)]
  · refine OK2L.no (x := -1) 1 hX hM V (by decide) (by decide) (by decide) ?_ fun h1' H i1 i2 R => ?_
    · rw [e_X_slept, s_has0 hH_2 hX.1.1 h6 hx, zbI_some, if_pos (show (0 : Int32) = 0 from rfl)]
    · rw [e_M_slept, i1, i2, m_isOne0 (h := (H.1, H.2)) R.1.1 h6 hx, zbI_some, if_pos (show (0 : Int32) = 0 from rfl), wb, zbI_some, if_neg (show ¬ ((-1 : Int32) = 0 ∧ ¬ rg y (1 + 1)) from fun q => absurd q.1 (by decide)), if_neg (show ¬ (0 : Int32) ≤ -1 by decide)]
end z61
