/-! questions of all people as they stand -/
/-- how many ones -/
def onF : Nat → Int32 → Int32 → Int32
  | 0, c, _ => c
  | m + 1, c, x => if x = 0 then c else onF m (c + 1) (x &&& (x - 1))
def offF : Nat → Int32 → Int32
  | 0, x => x
  | m + 1, x => if x = 0 then 0 else offF m (x &&& (x - 1))
def pop (x : Int32) : Int32 := onF 6 0 x
def pcx (x0 : Int32) : Int32 := ((((((((x0 - (((Int32.toUInt32 x0 >>> (Int32.toUInt32 1 &&& Int32.toUInt32 31)).toInt32) &&& 1431655765)) &&& 858993459) + (((Int32.toUInt32 (x0 - (((Int32.toUInt32 x0 >>> (Int32.toUInt32 1 &&& Int32.toUInt32 31)).toInt32) &&& 1431655765)) >>> (Int32.toUInt32 2 &&& Int32.toUInt32 31)).toInt32) &&& 858993459)) + ((Int32.toUInt32 (((x0 - (((Int32.toUInt32 x0 >>> (Int32.toUInt32 1 &&& Int32.toUInt32 31)).toInt32) &&& 1431655765)) &&& 858993459) + (((Int32.toUInt32 (x0 - (((Int32.toUInt32 x0 >>> (Int32.toUInt32 1 &&& Int32.toUInt32 31)).toInt32) &&& 1431655765)) >>> (Int32.toUInt32 2 &&& Int32.toUInt32 31)).toInt32) &&& 858993459)) >>> (Int32.toUInt32 4 &&& Int32.toUInt32 31)).toInt32)) &&& 252645135) + ((Int32.toUInt32 (((((x0 - (((Int32.toUInt32 x0 >>> (Int32.toUInt32 1 &&& Int32.toUInt32 31)).toInt32) &&& 1431655765)) &&& 858993459) + (((Int32.toUInt32 (x0 - (((Int32.toUInt32 x0 >>> (Int32.toUInt32 1 &&& Int32.toUInt32 31)).toInt32) &&& 1431655765)) >>> (Int32.toUInt32 2 &&& Int32.toUInt32 31)).toInt32) &&& 858993459)) + ((Int32.toUInt32 (((x0 - (((Int32.toUInt32 x0 >>> (Int32.toUInt32 1 &&& Int32.toUInt32 31)).toInt32) &&& 1431655765)) &&& 858993459) + (((Int32.toUInt32 (x0 - (((Int32.toUInt32 x0 >>> (Int32.toUInt32 1 &&& Int32.toUInt32 31)).toInt32) &&& 1431655765)) >>> (Int32.toUInt32 2 &&& Int32.toUInt32 31)).toInt32) &&& 858993459)) >>> (Int32.toUInt32 4 &&& Int32.toUInt32 31)).toInt32)) &&& 252645135) >>> (Int32.toUInt32 8 &&& Int32.toUInt32 31)).toInt32)) + ((Int32.toUInt32 ((((((x0 - (((Int32.toUInt32 x0 >>> (Int32.toUInt32 1 &&& Int32.toUInt32 31)).toInt32) &&& 1431655765)) &&& 858993459) + (((Int32.toUInt32 (x0 - (((Int32.toUInt32 x0 >>> (Int32.toUInt32 1 &&& Int32.toUInt32 31)).toInt32) &&& 1431655765)) >>> (Int32.toUInt32 2 &&& Int32.toUInt32 31)).toInt32) &&& 858993459)) + ((Int32.toUInt32 (((x0 - (((Int32.toUInt32 x0 >>> (Int32.toUInt32 1 &&& Int32.toUInt32 31)).toInt32) &&& 1431655765)) &&& 858993459) + (((Int32.toUInt32 (x0 - (((Int32.toUInt32 x0 >>> (Int32.toUInt32 1 &&& Int32.toUInt32 31)).toInt32) &&& 1431655765)) >>> (Int32.toUInt32 2 &&& Int32.toUInt32 31)).toInt32) &&& 858993459)) >>> (Int32.toUInt32 4 &&& Int32.toUInt32 31)).toInt32)) &&& 252645135) + ((Int32.toUInt32 (((((x0 - (((Int32.toUInt32 x0 >>> (Int32.toUInt32 1 &&& Int32.toUInt32 31)).toInt32) &&& 1431655765)) &&& 858993459) + (((Int32.toUInt32 (x0 - (((Int32.toUInt32 x0 >>> (Int32.toUInt32 1 &&& Int32.toUInt32 31)).toInt32) &&& 1431655765)) >>> (Int32.toUInt32 2 &&& Int32.toUInt32 31)).toInt32) &&& 858993459)) + ((Int32.toUInt32 (((x0 - (((Int32.toUInt32 x0 >>> (Int32.toUInt32 1 &&& Int32.toUInt32 31)).toInt32) &&& 1431655765)) &&& 858993459) + (((Int32.toUInt32 (x0 - (((Int32.toUInt32 x0 >>> (Int32.toUInt32 1 &&& Int32.toUInt32 31)).toInt32) &&& 1431655765)) >>> (Int32.toUInt32 2 &&& Int32.toUInt32 31)).toInt32) &&& 858993459)) >>> (Int32.toUInt32 4 &&& Int32.toUInt32 31)).toInt32)) &&& 252645135) >>> (Int32.toUInt32 8 &&& Int32.toUInt32 31)).toInt32)) >>> (Int32.toUInt32 16 &&& Int32.toUInt32 31)).toInt32)) &&& 63)
theorem pcx_64 : ∀ j, j < 64 → pcx (nI j) = pop (nI j) := by decide +kernel
theorem off_64 : ∀ j, j < 64 → offF 6 (nI j) = 0 := by decide +kernel
theorem bt_or : ∀ j, j < 64 → ∀ p, p < 6 → rg (nI j ||| bt p) 64 ∧ rg (nI j ||| 0) 64 := by unfold rg; decide +kernel
theorem i_nor (F a b : Int32) : (F &&& (a ^^^ -1)) &&& (b ^^^ -1) = F &&& ((a ||| b) ^^^ -1) := by
  apply Int32.toBitVec_inj.mp
  apply BitVec.eq_of_getLsbD_eq
  intro i hi
  simp only [Int32.toBitVec_and, Int32.toBitVec_xor, Int32.toBitVec_or, BitVec.getLsbD_and, BitVec.getLsbD_xor, BitVec.getLsbD_or]
  generalize F.toBitVec.getLsbD i = x
  generalize a.toBitVec.getLsbD i = y
  generalize b.toBitVec.getLsbD i = z
  have : (Int32.toBitVec (-1)).getLsbD i = true := by
    have : ∀ i, i < 32 → (Int32.toBitVec (-1)).getLsbD i = true := by decide
    exact this i hi
  rw [this]
  cases x <;> cases y <;> cases z <;> rfl
theorem i_or0 (F : Int32) : F ||| 0 = F := by simp
theorem i_0or (F : Int32) : 0 ||| F = F := by simp
theorem i_aa (F : Int32) : F &&& F = F := by simp
theorem rg_or {x : Int32} (h : rg x 64) {c : Prop} [Decidable c] {p : Nat} (hp : p < 6) : rg (x ||| (if c then bt p else 0)) 64 := by
  obtain ⟨j, hj, rfl⟩ := h
  split
  · exact (bt_or j hj p hp).1
  · exact (bt_or j hj p hp).2
theorem wat_rg {t : zT} (hn : tn t ≤ 6) (x : Int32) : rg (wat t x) 64 := by
  have : ∀ (m p : Nat) (y : Int32), p + m = tn t → rg y 64 → rg (fold (fun q y => y ||| (if ahd t q = x then bt q else 0)) m p y) 64 := by
    intro m
    induction m with
    | zero => intro p y _ hy; exact hy
    | succ m ih => intro p y hp hy; exact ih (p + 1) _ (by omega) (rg_or hy (by omega))
  exact this _ _ _ (Nat.zero_add _) ⟨0, by decide, rfl⟩
/-- the first with the greatest, and the greatest -/
def gF (f : Nat → Int32) : Nat → Nat → Int32 → Int32 → Int32 × Int32
  | 0, _, b, g => (b, g)
  | m + 1, p, b, g => if f p ≤ g then gF f m (p + 1) b g else gF f m (p + 1) (nI p) (f p)
theorem gF_s {f : Nat → Int32} {m p : Nat} {b g : Int32} : gF f (m + 1) p b g = if f p ≤ g then gF f m (p + 1) b g else gF f m (p + 1) (nI p) (f p) := rfl
section z36
variable {X : zX} {h : zH} {w : zW} {mx mm : zM} {as : List Value} {t : zT}
theorem s_pop {x : Int32} (hx : rg x 64) : zcf X m_J_bitCount [.int x] h = some (some (.int (pop x)), h) := by
  obtain ⟨j, hj, rfl⟩ := hx
  rw [e_J_bitCount, ← pcx_64 j hj]
  rfl
theorem m_onF : ∀ (m : Nat) (x c y : Int32), offF m y = 0 → zrn X 0 m_M_onesOf 4 [some (.int x), some (.int c), some (.int y)] [] h = some (some (.int (onF m c y)), h) := by
  intro m
  induction m with
  | zero =>
    intro x c y hy
    rw [b_M_onesOf_4, if_pos (show y = 0 from hy)]
    rfl
  | succ m ih =>
    intro x c y hy
    rw [b_M_onesOf_4]
    unfold onF
    unfold offF at hy
    by_cases q : y = 0
    · rw [if_pos q, if_pos q]
    · rw [if_neg q, if_neg q]
      rw [if_neg q] at hy
      exact ih x _ _ hy
theorem m_pop {x : Int32} (hx : rg x 64) : zcf X m_M_onesOf [.int x] h = some (some (.int (pop x)), h) := by
  obtain ⟨j, hj, rfl⟩ := hx
  rw [e_M_onesOf]
  exact m_onF 6 _ _ _ (off_64 j hj)
def lonP (t : zT) (p : Nat) : Int32 := rch (tK t p) (tF t p)
theorem s_lonF (H : isH 2) (R : HR h 2 t) (hn : tn t ≤ 6) : ∀ (m p : Nat) (b g : Int32), p + m = tn t → zrn X 2 m_X_longest 8 [some (.ref 1), some (.int b), some (.int g), some (.int (nI p))] [] h = some (some (.int (gF (lonP t) m p b g).1), h) := by
  intro m
  induction m with
  | zero =>
    intro p b g hp
    rw [b_X_longest_8, R.1, if_pos (nI_le (by omega) (by omega))]
    rfl
  | succ m ih =>
    intro p b g hp
    rw [b_X_longest_8, R.1, if_neg (nI_ge (by omega) (by omega)), s_reachOf H R hn (by omega), zbI_some, nI_add1]
    rw [gF_s]
    by_cases q : rch (tK t p) (tF t p) ≤ g
    · rw [if_pos q, if_pos (show lonP t p ≤ g from q), ih _ _ _ (by omega)]
    · rw [if_neg q, if_neg (show ¬ lonP t p ≤ g from q), s_reachOf H R hn (by omega), zbI_some, ih _ _ _ (by omega)]
      rfl
theorem m_lonF (R : MR h t) (V : tV t) : ∀ (m p : Nat) (b g : Int32), p + m = tn t → (b = -9 ∧ g = -9 ∨ ∃ j, j < p ∧ b = nI j ∧ g = lonP t j) → zrn X 1 m_M_longest 10 [some (.ref 123), some (.int b), some (.int (nI p))] [] h = some (some (.int (gF (lonP t) m p b g).1), h) := by
  have hn := V.1
  intro m
  induction m with
  | zero =>
    intro p b g hp _
    rw [b_M_longest_10, R.1, if_pos (nI_le (by omega) (by omega))]
    rfl
  | succ m ih =>
    intro p b g hp hb
    rw [b_M_longest_10, R.1, if_neg (nI_ge (by omega) (by omega)), nI_add1]
    rw [gF_s]
    rcases hb with ⟨rfl, rfl⟩ | ⟨j, hj, rfl, rfl⟩
    · have q : ¬ lonP t p ≤ -9 := by
        obtain ⟨e, he, q⟩ := tV_rch V (show p < tn t by omega)
        unfold lonP
        rw [q]
        have : ∀ e, e < 10 → ¬ nI e ≤ (-9 : Int32) := by decide
        exact this e he
      rw [if_pos (by decide), if_neg q]
      exact ih _ _ _ (by omega) (Or.inr ⟨p, by omega, rfl, rfl⟩)
    · rw [if_neg (nI_pos (by omega)), m_reachOf R hn (by omega), zbI_some, m_reachOf R hn (by omega), zbI_some]
      by_cases q : lonP t p ≤ lonP t j
      · rw [if_pos q, if_pos (show rch (tK t p) (tF t p) ≤ rch (tK t j) (tF t j) from q)]
        exact ih _ _ _ (by omega) (Or.inr ⟨j, by omega, rfl, rfl⟩)
      · rw [if_neg q, if_neg (show ¬ rch (tK t p) (tF t p) ≤ rch (tK t j) (tF t j) from q)]
        exact ih _ _ _ (by omega) (Or.inr ⟨p, by omega, rfl, rfl⟩)
theorem ok_longest (hX : XP h w) (hM : MP h w) (V : WV w) : OK2 X m_X_longest m_M_longest [] h := OK2.q0 hX hM V (by rw [e_X_longest]; exact s_lonF hH_2 hX.1.1 V.1.1.1 _ _ _ _ (Nat.zero_add _)) fun h1 H i1 i2 R => by
  rw [e_M_longest, i1, i2]
  exact m_lonF R.1.1 V.1.1 _ _ _ _ (Nat.zero_add _) (Or.inl ⟨rfl, rfl⟩)
/-- 0 or 1 is asked -/
theorem r01 {x : Int32} : (¬ x < 0 ∧ x ≤ 1) ↔ (0 : Int) ≤ x.toInt ∧ x.toInt ≤ 1 := by
  rw [lt0_iff, Int32.le_iff_toInt_le, show (1 : Int32).toInt = 1 by decide]
  omega
def busP (t : zT) (p : Nat) : Int32 := pop (wat t (nI p))
theorem s_busF (H : isH 2) (R : HR h 2 t) (V : tV t) (x : Int32) : ∀ (m p : Nat) (b g : Int32) (gg : Option Value), p + m = tn t → zrn X 4 m_X_busiest 25 [some (.ref 1), some (.int x), some (.int b), some (.int g), some (.int (nI p)), gg] [] h = some (some (.int (if x = 0 then (gF (busP t) m p b g).1 else (gF (busP t) m p b g).2)), h) := by
  have hn := V.1
  intro m
  induction m with
  | zero =>
    intro p b g gg hp
    rw [b_X_busiest_25, R.1, if_pos (nI_le (by omega) (by omega)), zI_ite]
    rfl
  | succ m ih =>
    intro p b g gg hp
    rw [b_X_busiest_25, R.1, if_neg (nI_ge (by omega) (by omega)), s_watchers H R V, zbI_some, s_pop (wat_rg hn _), zbI_some, nI_add1, ih _ _ _ _ (by omega)]
    rw [gF_s]
    by_cases q : busP t p ≤ g
    · rw [if_pos q, if_pos (show pop (wat t (nI p)) ≤ g from q), if_pos (show pop (wat t (nI p)) ≤ g from q)]
    · rw [if_neg q, if_neg (show ¬ pop (wat t (nI p)) ≤ g from q), if_neg (show ¬ pop (wat t (nI p)) ≤ g from q)]
      rfl
theorem m_busF (R : MR h t) (V : tV t) (x : Int32) : ∀ (m p : Nat) (b g : Int32) (gg : Option Value), p + m = tn t → zrn X 5 m_M_busiest 31 [some (.ref 123), some (.int x), some (.int b), some (.int g), some (.int (nI p)), gg] [] h = some (some (.int (if x = 0 then (gF (busP t) m p b g).1 else (gF (busP t) m p b g).2)), h) := by
  have hn := V.1
  intro m
  induction m with
  | zero =>
    intro p b g gg hp
    rw [b_M_busiest_31, R.1, if_pos (nI_le (by omega) (by omega)), zI_ite]
    rfl
  | succ m ih =>
    intro p b g gg hp
    rw [b_M_busiest_31, R.1, if_neg (nI_ge (by omega) (by omega)), m_watchersOf R V, zbI_some, m_pop (wat_rg hn _), zbI_some, nI_add1, ih _ _ _ _ (by omega)]
    rw [gF_s]
    by_cases q : busP t p ≤ g
    · rw [if_pos q, if_pos (show pop (wat t (nI p)) ≤ g from q), if_pos (show pop (wat t (nI p)) ≤ g from q)]
    · rw [if_neg q, if_neg (show ¬ pop (wat t (nI p)) ≤ g from q), if_neg (show ¬ pop (wat t (nI p)) ≤ g from q)]
      rfl
theorem ok_busiest (hX : XP h w) (hM : MP h w) (V : WV w) {x : Int32} : OK2 X m_X_busiest m_M_busiest [.int x] h := by
  by_cases q : ¬ x < 0 ∧ x ≤ 1
  · refine OK2.q0 (r := if x = 0 then (gF (busP (wt w)) (tn (wt w)) 0 (-9) (-9)).1 else (gF (busP (wt w)) (tn (wt w)) 0 (-9) (-9)).2) hX hM V ?_ fun h1 H i1 i2 R => ?_
    · rw [e_X_busiest, if_neg q.1, if_pos q.2]
      exact s_busF hH_2 hX.1.1 V.1.1 _ _ _ _ _ _ (Nat.zero_add _)
    · rw [e_M_busiest, i1, i2, m_inI (L := 0) (U := 1) (by decide) (by decide), zbI_some, if_pos (r01.mp q), if_neg (by decide)]
      exact m_busF R.1.1 V.1.1 _ _ _ _ _ _ (Nat.zero_add _)
  · refine OK2.no (x := -2) 2 hX hM V (by decide) (by decide) (by decide) ?_ fun h1 H i1 i2 R => ⟨H, ?_, R, FM.rf⟩
    · rw [e_X_busiest]
      by_cases q1 : x < 0
      · rw [if_pos q1, zrx2]
      · rw [if_neg q1, if_neg (fun z => q ⟨q1, z⟩), zrx2]
    · rw [e_M_busiest, i1, i2, m_inI (L := 0) (U := 1) (by decide) (by decide), zbI_some, if_neg (fun z => q (r01.mpr z)), if_pos rfl, zrm2]
/-- a bit, or none -/
def bz (v : Int32) : Int32 := if v = -9 then 0 else bt v.toNatClampNeg
theorem bz_nI {q : Nat} (hq : q < 6) : bz (nI q) = bt q := by
  unfold bz
  have : ∀ q, q < 6 → ¬ nI q = (-9 : Int32) := by decide
  rw [if_neg (this q hq), nI_clamp (by omega)]
theorem s_bz {v : Int32} (hv : v = -9 ∨ ∃ q, q < tn t ∧ v = nI q) (hn : tn t ≤ 6) : zcf X m_X_bitOf [.int v] h = some (some (.int (bz v)), h) := by
  rcases hv with rfl | ⟨q, hq, rfl⟩
  · exact s_bitOf9
  · rw [s_bitOf (by omega), bz_nI (by omega)]
theorem s_every (H : isH 2) (R : HR h 2 t) (hn : tn t ≤ 6) : zcf X m_H_everybody [.ref 2] h = some (some (.int (bt (tn t) - 1)), h) := by
  rw [e_H_everybody H, R.1, s_bitOf (by omega), zbI_some]
def unsF (t : zT) : Nat → Nat → Int32 → Int32 := fold fun q y => y ||| (bz (ahd t q) ||| bz (lns t q))
theorem fold_s {f : Nat → Int32 → Int32} {m p : Nat} {y : Int32} : fold f (m + 1) p y = fold f m (p + 1) (f p y) := rfl
theorem s_unsF (H : isH 2) (R : HR h 2 t) (V : tV t) : ∀ (m p : Nat) (y : Int32), p + m = tn t → zrn X 3 m_X_unseen 4 [some (.ref 1), some (.int y), some (.int (nI p))] [] h = some (some (.int ((bt (tn t) - 1) &&& (unsF t m p y ^^^ (-1)))), h) := by
  have hn := V.1
  intro m
  induction m with
  | zero =>
    intro p y hp
    rw [b_X_unseen_4, R.1, if_pos (nI_le (by omega) (by omega)), s_every H R hn, zbI_some]
    rfl
  | succ m ih =>
    intro p y hp
    rw [b_X_unseen_4, R.1, if_neg (nI_ge (by omega) (by omega)), s_ahead H R V (by omega), zbI_some, s_bz (ahd_rg t p) hn, zbI_some, s_inLens H R V (by omega), zbI_some, s_bz (lns_rg t p) hn, zbI_some, nI_add1, ih _ _ (by omega)]
    rfl
theorem i_nor0 (F : Int32) : F = F &&& ((0 : Int32) ^^^ -1) := by simp
theorem m_unsF (R : MR h t) (V : tV t) (F : Int32) : ∀ (m p : Nat) (y : Int32), p + m = tn t → zrn X 4 m_M_unseen 16 [some (.ref 123), some (.int (F &&& (y ^^^ (-1)))), some (.int (nI p))] [] h = some (some (.int (F &&& (unsF t m p y ^^^ (-1)))), h) := by
  have hn := V.1
  intro m
  induction m with
  | zero =>
    intro p y hp
    rw [b_M_unseen_16, R.1, if_pos (nI_le (by omega) (by omega))]
    rfl
  | succ m ih =>
    intro p y hp
    rw [b_M_unseen_16, R.1, if_neg (nI_ge (by omega) (by omega)), nI_add1, m_aheadOf R V (by omega), zbI_some]
    have e : fold (fun q y => y ||| (bz (ahd t q) ||| bz (lns t q))) (m + 1) p y = unsF t m (p + 1) (y ||| (bz (ahd t p) ||| bz (lns t p))) := rfl
    show _ = some (some (Value.int (F &&& (fold (fun q y => y ||| (bz (ahd t q) ||| bz (lns t q))) (m + 1) p y ^^^ (-1)))), h)
    rw [e, ← ih _ _ (by omega)]
    rcases ahd_rg t p with q | ⟨j, hj, q⟩
    · rw [q, if_neg (by decide), m_lensOf R V (by omega), zbI_some]
      rcases lns_rg t p with r | ⟨i, hi, r⟩
      · rw [r, if_neg (by decide), i_aa, i_aa, show bz (-9) = 0 from rfl, i_or0, i_or0]
      · rw [r, if_pos (nI_pos' (by omega)), m_lensOf R V (by omega), zbI_some, r, i_aa, show bz (-9) = 0 from rfl, i_0or, bz_nI (by omega), ← i_nor]
        rfl
    · rw [q, if_pos (nI_pos' (by omega)), m_aheadOf R V (by omega), zbI_some, m_lensOf R V (by omega), zbI_some, q, bz_nI (by omega)]
      rcases lns_rg t p with r | ⟨i, hi, r⟩
      · rw [r, if_neg (by decide), i_aa, show bz (-9) = 0 from rfl, i_or0, ← i_nor]
        rfl
      · rw [r, if_pos (nI_pos' (by omega)), m_lensOf R V (by omega), zbI_some, r, bz_nI (by omega), ← Int32.or_assoc, ← i_nor, ← i_nor]
        rfl
theorem ok_unseen (hX : XP h w) (hM : MP h w) (V : WV w) : OK2 X m_X_unseen m_M_unseen [] h := OK2.q0 hX hM V (by rw [e_X_unseen]; exact s_unsF hH_2 hX.1.1 V.1.1 _ _ _ (Nat.zero_add _)) fun h1 H i1 i2 R => by
  rw [e_M_unseen, i1, i2, R.1.1.1, i_nor0 ((1 <<< (nI (tn (wt w)) &&& 31)) - 1)]
  exact m_unsF R.1.1 V.1.1 _ _ _ _ (Nat.zero_add _)
def hidR (t : zT) (p : Nat) : Int32 := ray t (tC t p) (tD t p) 5
def hidF (t : zT) : Nat → Nat → Int32 → Int32 := fold fun q y => y ||| bz (hidR t q)
theorem s_hidF (H : isH 2) (R : HR h 2 t) (V : tV t) : ∀ (m p : Nat) (y : Int32), p + m = tn t → zrn X 2 m_X_hidden 4 [some (.ref 1), some (.int y), some (.int (nI p))] [] h = some (some (.int ((bt (tn t) - 1) &&& (hidF t m p y ^^^ (-1)))), h) := by
  have hn := V.1
  intro m
  induction m with
  | zero =>
    intro p y hp
    rw [b_X_hidden_4, R.1, if_pos (nI_le (by omega) (by omega)), s_every H R hn, zbI_some]
    rfl
  | succ m ih =>
    intro p y hp
    rw [b_X_hidden_4, R.1, if_neg (nI_ge (by omega) (by omega)), e_H_facesOf H, s_facOf H R hn (by omega), zbI_some, zbI_some, s_nextTo (far := 5) H R hn (by omega) ⟨5, by decide, rfl⟩, zbI_some, s_bz (ray_rg _ _ _ _) hn, zbI_some, nI_add1, ih _ _ (by omega)]
    rfl
theorem m_hidF (R : MR h t) (V : tV t) (F : Int32) : ∀ (m p : Nat) (y : Int32) (gg : Option Value), p + m = tn t → zrn X 3 m_M_hidden 16 [some (.ref 123), some (.int (F &&& (y ^^^ (-1)))), some (.int (nI p)), gg] [] h = some (some (.int (F &&& (hidF t m p y ^^^ (-1)))), h) := by
  have hn := V.1
  intro m
  induction m with
  | zero =>
    intro p y gg hp
    rw [b_M_hidden_16, R.1, if_pos (nI_le (by omega) (by omega))]
    rfl
  | succ m ih =>
    intro p y gg hp
    have hp6 : p < tn t := by omega
    obtain ⟨r1, r2, r3, r4, r5⟩ := R.2 p hp6
    obtain ⟨v1, v2, v3, v4, v5⟩ := V.2 p hp6
    have e : hidF t (m + 1) p y = hidF t m (p + 1) (y ||| bz (hidR t p)) := rfl
    rw [e, b_M_hidden_16, R.1, if_neg (nI_ge (by omega) (by omega)), if_pos (zin_nI (by omega) (by decide)), if_pos (zin_nI (by omega) (by decide)), nI_clamp (by omega), r3, r4, m_nextFrom (far := 5) R hn v3 v4 ⟨5, by decide, rfl⟩, zbI_some, nI_add1, ← ih (p + 1) _ (some (Value.int (hidR t p))) (by omega)]
    have q : hidR t p = -9 ∨ ∃ q, q < tn t ∧ hidR t p = nI q := ray_rg _ _ _ _
    show zrn X 3 m_M_hidden 16 [some (.ref 123), some (.int ((F &&& (y ^^^ (-1))) &&& (if 0 ≤ hidR t p then (((1 : Int32) <<< (hidR t p &&& 31)) ^^^ (-1)) else (F &&& (y ^^^ (-1)))))), some (.int (nI (p + 1))), some (.int (hidR t p))] [] h = _
    rcases q with q | ⟨j, hj, q⟩
    · rw [q, if_neg (by decide), i_aa, show bz (-9) = 0 from rfl, i_or0]
    · rw [q, if_pos (nI_pos' (by omega)), bz_nI (by omega), ← i_nor]
      rfl
theorem ok_hidden (hX : XP h w) (hM : MP h w) (V : WV w) : OK2 X m_X_hidden m_M_hidden [] h := OK2.q0 hX hM V (by rw [e_X_hidden]; exact s_hidF hH_2 hX.1.1 V.1.1 _ _ _ (Nat.zero_add _)) fun h1 H i1 i2 R => by
  rw [e_M_hidden, i1, i2, R.1.1.1, i_nor0 ((1 <<< (nI (tn (wt w)) &&& 31)) - 1)]
  exact m_hidF R.1.1 V.1.1 _ _ _ _ _ (Nat.zero_add _)
end z36
