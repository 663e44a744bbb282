/-! lots -/
theorem nI_div {a b : Nat} (ha : a < 2 ^ 31) (hb : b < 2 ^ 31) : nI a / nI b = nI (a / b) := by
  have hc : a / b < 2 ^ 31 := Nat.lt_of_le_of_lt (Nat.div_le_self _ _) ha
  refine Int32.toInt_inj.mp ?_
  rw [Int32.toInt_div, nI_toInt ha, nI_toInt hb, nI_toInt hc]
  show (((a / b : Nat) : Int)).bmod (2 ^ 32) = _
  generalize a / b = q at hc ⊢
  exact Int.bmod_eq_of_le (by omega) (by omega)
theorem nI_mul (a b : Nat) : nI a * nI b = nI (a * b) := (Int32.ofNat_mul a b).symm
theorem nI_rem {a b : Nat} (ha : a < 2 ^ 31) (hb : b < 2 ^ 31) : zrem (nI a) (nI b) = nI (a % b) := by
  show nI a - nI a / nI b * nI b = _
  rw [nI_div ha hb, nI_mul]
  have e : nI a = nI (a % b) + nI (a / b * b) := by rw [nI_add]; congr 1; have := Nat.div_add_mod a b; rw [Nat.mul_comm] at this; omega
  rw [e, Int32.add_sub_cancel]
theorem i_and31 (s : Int32) : ∃ j, j < 2 ^ 31 ∧ s &&& 2147483647 = nI j := by
  refine ⟨s.toBitVec.toNat % 2 ^ 31, Nat.mod_lt _ (by decide), ?_⟩
  apply Int32.toBitVec_inj.mp
  apply BitVec.eq_of_toNat_eq
  have h1 : (s &&& 2147483647).toBitVec.toNat = s.toBitVec.toNat &&& (2 ^ 31 - 1) := by
    rw [Int32.toBitVec_and, BitVec.toNat_and]
    rfl
  rw [h1, Nat.and_two_pow_sub_one_eq_mod]
  show _ = (Int32.ofNat _).toBitVec.toNat
  have h2 : (Int32.ofNat (s.toBitVec.toNat % 2 ^ 31)).toBitVec.toNat = (s.toBitVec.toNat % 2 ^ 31) % 2 ^ 32 := by
    rfl
  rw [h2, Nat.mod_eq_of_lt (Nat.lt_of_lt_of_le (Nat.mod_lt _ (by decide)) (by decide))]
def nxs (s : Int32) : Int32 := s * 1103515245 + 12345
def drw (s : Int32) : Int32 := zrem ((s &&& 2147483647) / 65536) 4
theorem drw_rg (s : Int32) : rg (drw s) 4 := by
  obtain ⟨j, hj, e⟩ := i_and31 s
  unfold drw
  rw [e, show (65536 : Int32) = nI 65536 from rfl, nI_div hj (by decide), show (4 : Int32) = nI 4 from rfl, nI_rem (by omega) (by decide)]
  exact ⟨_, Nat.mod_lt _ (by decide), rfl⟩
/-- everyone's faces are drawn -/
def drwF : Nat → Nat → Int32 → zT → Int32 × zT
  | 0, _, s, t => (s, t)
  | m + 1, p, s, t => drwF m (p + 1) (nxs s) (wD t p (drw (nxs s)))
theorem drwF_s {m p : Nat} {s : Int32} {t : zT} : drwF (m + 1) p s t = drwF m (p + 1) (nxs s) (wD t p (drw (nxs s))) := rfl
theorem drwF_V : ∀ (m p : Nat) (s : Int32) (t : zT), tV t → tV (drwF m p s t).2 ∧ tn (drwF m p s t).2 = tn t := by
  intro m
  induction m with
  | zero => intro p s t V; exact ⟨V, rfl⟩
  | succ m ih => intro p s t V; rw [drwF_s]; exact ih (p + 1) (nxs s) _ (V.wD (drw_rg _))
def lotT (t : zT) (s : Int32) : zT := nts (drwF (tn t) 0 s t).2 10
def lotF (t : zT) : Nat → Int32 → Int32 → Int32 → Int32 × Int32
  | 0, _, a, b => (a, b)
  | m + 1, s, a, b => lotF t m (drwF (tn t) 0 s t).1 (a + (sto (lotT t s) - sto t)) (b + hms (lotT t s) ahd)
theorem lotF_s {t : zT} {m : Nat} {s a b : Int32} : lotF t (m + 1) s a b = lotF t m (drwF (tn t) 0 s t).1 (a + (sto (lotT t s) - sto t)) (b + hms (lotT t s) ahd) := rfl
theorem lotT_V {t : zT} (V : tV t) (s : Int32) : tV (lotT t s) ∧ tn (lotT t s) = tn t := by
  obtain ⟨a1, a2⟩ := drwF_V (tn t) 0 s t V
  obtain ⟨b1, b2⟩ := nts_V 10 _ a1
  exact ⟨b1, b2.trans a2⟩
theorem fold_add {g : Nat → Int32} : ∀ (m p : Nat) (x : Int32), fold (fun q y => y + g q) m p x = x + fold (fun q y => y + g q) m p 0 := by
  intro m
  induction m with
  | zero => intro p x; exact (Int32.add_zero x).symm
  | succ m ih =>
    intro p x
    show fold (fun q y => y + g q) m (p + 1) (x + g p) = x + fold (fun q y => y + g q) m (p + 1) (0 + g p)
    rw [ih, ih (p + 1) (0 + g p), Int32.zero_add, Int32.add_assoc]
section z56
variable {X : zX} {h h0 : zH} {w : zW} {mx mm : zM} {as : List Value} {t : zT} {a : Nat}
theorem s_drwF {n y f s0 u v i : Int32} (hn : tn t ≤ 6) : ∀ (m p : Nat) (s : Int32) (t' : zT) (h : zH), p + m = tn t → tn t' = tn t → MD h0 t' h → ∃ h', zrn X 6 m_X_lots 73 [some (.ref 1), some (.int n), some (.int s0), some (.int y), some (.int s), some (.int u), some (.int v), some (.int i), some (.int (nI p))] [] h = zrn X 6 m_X_lots 73 [some (.ref 1), some (.int n), some (.int s0), some (.int y), some (.int (drwF m p s t').1), some (.int u), some (.int v), some (.int i), some (.int (nI (tn t)))] [] h' ∧ MD h0 (drwF m p s t').2 h' := by
  intro m
  induction m with
  | zero =>
    intro p s t' h hp _ D
    refine ⟨h, ?_, D⟩
    rw [show p = tn t by omega]
    rfl
  | succ m ih =>
    intro p s t' h hp ht D
    have D1 : MD h0 (wD t' p (drw (nxs s))) (zup h.1 (8 + 4) p (drw (nxs s)), h.2) := D.go (HR.uD D.1) (FM.up (by unfold pXq; decide)) (D.2.2.wD (drw_rg _))
    obtain ⟨h1, a1, a2⟩ := ih (p + 1) (nxs s) _ _ (by omega) (show tn (wD t' p (drw (nxs s))) = tn t from ht) D1
    refine ⟨h1, ?_, by rw [drwF_s]; exact a2⟩
    rw [b_X_lots_73, D.1.1, ht, if_neg (nI_ge (by omega) (by omega)), e_X_nextSeed, zbI_some, e_X_drawOf, if_neg (show ¬ (4 : Int32) ≤ 0 by decide), if_neg (show ¬ (4 : Int32) = 0 by decide), zbI_some, show zrem ((s * 1103515245 + 12345 &&& 2147483647) / 65536) 4 = drw (nxs s) from rfl, s_face hH_8 (by omega), zbV_some, nI_add1, drwF_s]
    exact a1
theorem s_lotF {n : Nat} (hn : n < 21) {s0 y : Int32} (hX0 : HR h0 2 t) (V : tV t) (hX : ∀ h, FM pXq h0 h → ∃ h1, zcf X m_H_become [.ref 8, .ref 2] h = some (none, h1) ∧ MD h0 t h1) : ∀ (m i : Nat) (s u v : Int32) (h : zH) (g8 : Option Value), i + m = n → FM pXq h0 h → ∃ h', zrn X 6 m_X_lots 53 [some (.ref 1), some (.int (nI n)), some (.int s0), some (.int y), some (.int s), some (.int u), some (.int v), some (.int (nI i)), g8] [] h = some (some (.int (if y = 0 then (lotF t m s u v).1 else (lotF t m s u v).2)), h') ∧ FM pXq h0 h' := by
  have h6 := V.1
  intro m
  induction m with
  | zero =>
    intro i s u v h g8 hi F
    refine ⟨h, ?_, F⟩
    rw [b_X_lots_53, if_pos (nI_le (by omega) (by omega)), zI_ite]
    rfl
  | succ m ih =>
    intro i s u v h g8 hi F
    obtain ⟨h1, a1, a2⟩ := hX h F
    obtain ⟨h2, b1, b2⟩ := s_drwF (X := X) (f := 0) (n := nI n) (y := y) (s0 := s0) (u := u) (v := v) (i := nI i) h6 (tn t) 0 s t h1 (Nat.zero_add _) rfl a2
    obtain ⟨v1, v2⟩ := drwF_V (tn t) 0 s t V
    obtain ⟨h3, c1, c2, c3, c4⟩ := s_pass (X := X) hH_8 b2.1 v1 (e := 10) (by decide)
    obtain ⟨w1, w2⟩ := lotT_V V s
    have F3 : FM pXq h0 h3 := b2.2.1.tr (c4.fm fun b j _ _ => by unfold pXq; omega)
    have X2 : HR h3 2 t := hX0.of fun b j h1 h2 => F3 b j (by unfold pXq; omega)
    have c2' : HR h3 8 (lotT t s) := c2
    rw [b_X_lots_53, if_neg (nI_ge (by omega) (by omega)), a1, zbV_some, show zrn X 6 m_X_lots 73 [some (.ref 1), some (.int (nI n)), some (.int s0), some (.int y), some (.int s), some (.int u), some (.int v), some (.int (nI i)), some (.int 0)] [] h1 = _ from b1, b_X_lots_73, b2.1.1, v2, if_pos (nI_le (by omega) (by omega)), show zcf X m_H_pass [.ref 8, .int 10] h2 = _ from c1, zbV_some, s_startsTogether hH_8 c2' w1.1, zbI_some, s_startsTogether hH_2 X2 h6, zbI_some, s_howMany1 hH_8 c2' w1, zbI_some, nI_add1, lotF_s]
    exact ih (i + 1) _ _ _ h3 _ (by omega) F3
/-- the model's seed is kept where it is put back -/
theorem TH.bk34 (T : TH h0 t h) : ∃ h1, zcf X m_M_again [.ref 123] h = some (none, h1) ∧ BK h0 h1 ∧ h1.1 123 34 = h.1 123 34 := by
  rw [e_M_again]
  obtain ⟨h1, w1, S⟩ := m_putAll (X := X) (h := h) (q := 133) (by decide) zc_134
  rw [w1, zbV_some]
  obtain ⟨t1, t2, t3, t4, t5⟩ := S
  have f : FM pT h h1 := fun b j hb => t5 b j (fun z => hb (by unfold pT pS; omega)) (fun z => hb (by unfold pT pS; omega))
  exact ⟨h1, rfl, ⟨T.2.1.go f, fun j hj => (t4 j hj).trans (T.2.1.1 j hj)⟩, t5 123 34 (by decide) (by decide)⟩
theorem m_drwF {n s0 y f x5 x6 i : Int32} (hn : tn t ≤ 6) : ∀ (m p : Nat) (s : Int32) (t' : zT) (h : zH), p + m = tn t → tn t' = tn t → TH h0 t' h → h.1 123 34 = s → ∃ h', zrn X 7 m_M_lots 61 [some (.ref 123), some (.int n), some (.int s0), some (.int y), some (.int f), some (.int x5), some (.int x6), some (.int i), some (.int (nI p))] [] h = zrn X 7 m_M_lots 61 [some (.ref 123), some (.int n), some (.int s0), some (.int y), some (.int f), some (.int x5), some (.int x6), some (.int i), some (.int (nI (tn t)))] [] h' ∧ TH h0 (drwF m p s t').2 h' ∧ h'.1 123 34 = (drwF m p s t').1 := by
  intro m
  induction m with
  | zero =>
    intro p s t' h hp _ T hs
    refine ⟨h, ?_, T, hs⟩
    rw [show p = tn t by omega]
  | succ m ih =>
    intro p s t' h hp ht T hs
    have T1 : TH h0 t' (zup h.1 123 34 (nxs s), h.2) := T.go (T.1.fld (by decide)) (FM.up (by unfold pT pS; omega)) T.2.2
    have T2 : TH h0 (wD t' p (drw (nxs s))) (zup (zup h.1 123 34 (nxs s)) 127 p (drw (nxs s)), h.2) := T1.go (MR.uD T1.1) (FM.up (h := (zup h.1 123 34 (nxs s), h.2)) (by unfold pT pS; omega)) (T.2.2.wD (drw_rg _))
    obtain ⟨h1, a1, a2, a3⟩ := ih (p + 1) (nxs s) _ _ (by omega) (show tn (wD t' p (drw (nxs s))) = tn t from ht) T2 (by dsimp only; rw [zup_nc (by decide), zup_eq])
    refine ⟨h1, ?_, by rw [drwF_s]; exact a2, by rw [drwF_s]; exact a3⟩
    rw [b_M_lots_61, T.1.1, ht, if_neg (nI_ge (by omega) (by omega)), e_M_drawBelow, if_neg (show ¬ (4 : Int32) = 0 by decide), zup_eq, hs, show zrem ((s * 1103515245 + 12345 &&& 2147483647) / 65536) 4 = drw (nxs s) from rfl, show s * 1103515245 + 12345 = nxs s from rfl, zbI_some, if_pos (zin_nI (by omega) (by decide)), nI_clamp (by omega), nI_add1]
    exact a1
theorem m_lotA {n s0 f x5 i : Int32} {t' : zT} (R : MR h t') (V : tV t') : ∀ (m p : Nat) (x6 : Int32), p + m = tn t' → zrn X 7 m_M_lots 113 [some (.ref 123), some (.int n), some (.int s0), some (.int 1), some (.int f), some (.int x5), some (.int x6), some (.int i), some (.int (nI p))] [] h = (zbV (zcf X m_M_again [.ref 123] h) fun h1 => zrn X 7 m_M_lots 52 [some (.ref 123), some (.int n), some (.int s0), some (.int 1), some (.int f), some (.int x5), some (.int (fold (fun q y => y + (if ahd t' q = -9 then 0 else 1)) m p x6)), some (.int (i + 1)), some (.int (nI (tn t')))] [] h1) := by
  have h6 := V.1
  intro m
  induction m with
  | zero =>
    intro p x6 hp
    rw [b_M_lots_113, R.1, if_pos (nI_le (by omega) (by omega)), show p = tn t' by omega]
    rfl
  | succ m ih =>
    intro p x6 hp
    rw [b_M_lots_113, R.1, if_neg (nI_ge (by omega) (by omega)), if_pos (show (1 : Int32) = 1 from rfl), m_aheadOf R V (by omega), zbI_some, nI_add1]
    have e : (if 0 ≤ ahd t' p then (1 : Int32) else 0) = if ahd t' p = -9 then 0 else 1 := by
      obtain ⟨-, n2⟩ := neg9 h6 (ahd_rg t' p)
      by_cases z : ahd t' p = -9
      · rw [if_pos z, if_neg (fun k => n2.mp k z)]
      · rw [if_neg z, if_pos (n2.mpr z)]
    rw [e]
    exact ih (p + 1) _ (by omega)
theorem m_lotF {n : Nat} (hn : n < 21) {s0 f : Int32} {k : Nat} (hk : k < 2) (R0 : MP h0 w) (V : WV w) : ∀ (m i : Nat) (s u v : Int32) (h : zH) (g8 : Option Value), i + m = n → BK h0 h → h.1 123 34 = s → ∃ h', zrn X 7 m_M_lots 52 [some (.ref 123), some (.int (nI n)), some (.int s0), some (.int (nI k)), some (.int f), some (.int (sto (wt w))), some (.int (if k = 0 then u else v)), some (.int (nI i)), g8] [] h = some (some (.int (if k = 0 then (lotF (wt w) m s u v).1 else (lotF (wt w) m s u v).2)), h') ∧ BK h0 h' := by
  have h6 : tn (wt w) ≤ 6 := V.1.1.1
  intro m
  induction m with
  | zero =>
    intro i s u v h g8 hi K _
    refine ⟨h, ?_, K⟩
    rw [b_M_lots_52, if_pos (nI_le (by omega) (by omega))]
    rfl
  | succ m ih =>
    intro i s u v h g8 hi K hs
    obtain ⟨h2, b1, b2, b3⟩ := m_drwF (X := X) (n := nI n) (s0 := s0) (y := nI k) (f := f) (x5 := sto (wt w)) (x6 := if k = 0 then u else v) (i := nI i) h6 (tn (wt w)) 0 s (wt w) h (Nat.zero_add _) rfl (K.th R0 V) hs
    obtain ⟨v1, v2⟩ := drwF_V (tn (wt w)) 0 s (wt w) V.1.1
    obtain ⟨w1, w2⟩ := lotT_V V.1.1 s
    obtain ⟨h3, c1, c2, c3, c4⟩ := m_goNights (X := X) b2.1 v1 (e := 10) (by decide)
    have T3 : TH h0 (lotT (wt w) s) h3 := b2.go c2 (c4.fm.mono fun b j z => pN_pT z) w1
    have s3 : h3.1 123 34 = (drwF (tn (wt w)) 0 s (wt w)).1 := (c4.2 123 34 (by unfold pN; omega)).trans b3
    obtain ⟨h4, d1, d2, d3⟩ := T3.bk34 (X := X)
    rw [b_M_lots_52, if_neg (nI_ge (by omega) (by omega)), show zrn X 7 m_M_lots 61 [some (.ref 123), some (.int (nI n)), some (.int s0), some (.int (nI k)), some (.int f), some (.int (sto (wt w))), some (.int (if k = 0 then u else v)), some (.int (nI i)), some (.int 0)] [] h = _ from b1, b_M_lots_61, b2.1.1, v2, if_pos (nI_le (by omega) (by omega)), show zcf X m_M_goNights [.ref 123, .int 10] h2 = _ from c1, zbV_some, lotF_s]
    have : k = 0 ∨ k = 1 := by omega
    rcases this with rfl | rfl
    · rw [if_pos (show nI 0 = 0 from rfl), m_allOfStarts T3.1 w1.1, zbI_some, b_M_lots_113]
      have q : (if h3.1 123 0 ≤ 0 then (zbV (zcf X m_M_again [.ref 123] h3) fun h1 => zrn X 7 m_M_lots 52 [some (.ref 123), some (.int (nI n)), some (.int s0), some (.int (nI 0)), some (.int f), some (.int (sto (wt w))), some (.int ((if 0 = 0 then u else v) + (sto (lotT (wt w) s) - sto (wt w)))), some (.int (nI i + 1)), some (.int 0)] [] h1) else (zbV (zcf X m_M_again [.ref 123] h3) fun h1 => zrn X 7 m_M_lots 52 [some (.ref 123), some (.int (nI n)), some (.int s0), some (.int (nI 0)), some (.int f), some (.int (sto (wt w))), some (.int ((if 0 = 0 then u else v) + (sto (lotT (wt w) s) - sto (wt w)))), some (.int (nI i + 1)), some (.int 0)] [] h1)) = (zbV (zcf X m_M_again [.ref 123] h3) fun h1 => zrn X 7 m_M_lots 52 [some (.ref 123), some (.int (nI n)), some (.int s0), some (.int (nI 0)), some (.int f), some (.int (sto (wt w))), some (.int ((if 0 = 0 then u else v) + (sto (lotT (wt w) s) - sto (wt w)))), some (.int (nI i + 1)), some (.int 0)] [] h1) := ite_self _
      rw [if_neg (show ¬ nI 0 = 1 by decide), q, d1, zbV_some, nI_add1]
      exact ih (i + 1) _ _ (v + hms (lotT (wt w) s) ahd) h4 _ (by omega) d2 (d3.trans s3)
    · rw [if_neg (show ¬ nI 1 = 0 by decide), show zrn X 7 m_M_lots 113 [some (.ref 123), some (.int (nI n)), some (.int s0), some (.int (nI 1)), some (.int f), some (.int (sto (wt w))), some (.int (if 1 = 0 then u else v)), some (.int (nI i)), some (.int 0)] [] h3 = _ from m_lotA T3.1 w1 (tn (lotT (wt w) s)) 0 (if 1 = 0 then u else v) (Nat.zero_add _), d1, zbV_some, nI_add1, fold_add]
      exact ih (i + 1) _ (u + (sto (lotT (wt w) s) - sto (wt w))) _ h4 _ (by omega) d2 (d3.trans s3)
theorem m_think34 (h : zH) : ∃ h1, zcf X m_M_think [.ref 123] h = some (none, h1) ∧ BK h h1 ∧ h1.1 123 34 = h.1 123 34 := by
  obtain ⟨h1, a1, a2⟩ := m_think2 (X := X) h
  refine ⟨h1, a1, a2, ?_⟩
  rw [e_M_think] at a1
  obtain ⟨h2, w1, T⟩ := m_takeAll (X := X) (h := h) (q := 133) (by decide) zc_134
  rw [w1, zbV_some] at a1
  obtain ⟨t1, t2, t3, t4, t5⟩ := T
  have : h2 = h1 := by injection a1 with a1; injection a1
  rw [← this]
  exact t5 123 34 (by decide) (by decide)
theorem ok_lots (hX : XP h w) (hM : MP h w) (V : WV w) {n z y : Int32} : OK2 X m_X_lots m_M_lots [.int n, .int z, .int y] h := by
  have h6 : tn (wt w) ≤ 6 := V.1.1.1
  have wb : ∀ (v : Int32) (h : zH), zcf X m_M_wrongBit [.int v, .int y, .int 1] h = some (some (.int (@ite _ (v = 0 ∧ ¬ rg y (1 + 1)) (Classical.propDecidable _) (-2) v)), h) := fun v h => m_wrongBit (last := 1) (by decide)
  by_cases h1 : 1 ≤ n
  · have h0 : (0 : Int32) ≤ n := by
      rw [Int32.le_iff_toInt_le] at h1 ⊢
      have e : (0 : Int32).toInt = 0 := by decide
      have e1 : (1 : Int32).toInt = 1 := by decide
      omega
    by_cases h20 : n ≤ 20
    · by_cases hy : rg y 2
      · obtain ⟨j, hj, rfl⟩ := rg_le (n := 20) (by decide) h0 h20
        have hy' := hy
        rw [rg_of (by decide)] at hy'
        obtain ⟨k, hk, rfl⟩ := hy
        obtain ⟨h2, a1, a2⟩ := s_lotF (X := X) (n := j) hj (s0 := z) (y := nI k) (h0 := h) (t := wt w) hX.1.1 V.1.1 (fun h' F => by
          obtain ⟨h1, c1, c2⟩ := s_mind (X := X) (hX.qry F) V
          exact ⟨h1, c1, c2.1, F.tr c2.2.1, c2.2.2⟩) j 0 z 0 0 h none (Nat.zero_add _) FM.rf
        refine OK2.qy (r := if k = 0 then (lotF (wt w) j z 0 0).1 else (lotF (wt w) j z 0 0).2) hX hM V ⟨h2, ?_, a2⟩ fun h1' H i1 i2 R => ?_
        · have ek : (nI k = 0) = (k = 0) := propext (nI_eq (b := 0) (by omega) (by decide))
          rw [e_X_lots, if_pos h1, if_pos h20, if_neg (show ¬ nI k < 0 from fun q => absurd (lt0_iff.mp q) (by omega)), if_pos (show nI k ≤ (1 : Int32) from (nI_le' (n := 1) (by decide)).mpr (by omega))]
          refine a1.trans ?_
          simp only [ek]
        · have R34 : MP (zup H.1 123 34 z, H.2) w := R.qry V (fun q hq => by
            unfold lay
            by_cases q0 : q = 0
            · rw [if_pos q0, if_pos q0]; show zup H.1 123 34 z 123 0 = _; exact zup_ns (by decide)
            · rw [if_neg q0, if_neg q0]
              by_cases q1 : q = 1
              · rw [if_pos q1, if_pos q1]; show zup H.1 123 34 z 123 6 = _; exact zup_ns (by decide)
              · rw [if_neg q1, if_neg q1]; exact zup_nc (by omega)) (FM.up (by unfold pS; omega))
          obtain ⟨h3, b1, b2, b34⟩ := m_think34 (X := X) (zup H.1 123 34 z, H.2)
          dsimp only at b34
          rw [zup_eq] at b34
          obtain ⟨h4, c1, c2⟩ := m_lotF (X := X) (n := j) hj (s0 := z) (f := 0) hk R34 V j 0 z 0 0 h3 none (Nat.zero_add _) b2 b34
          refine ⟨h4, ?_, c2.mp R34 V, (FM.up (by unfold pMa; omega)).tr c2.pM⟩
          rw [e_M_lots, i1, i2, m_wrongN, zbI_some, if_pos h1, if_pos h20, wb, zbI_some, if_neg (show ¬ ((0 : Int32) = 0 ∧ ¬ rg (nI k) (1 + 1)) from fun q => q.2 ⟨k, hk, rfl⟩), if_pos (show (0 : Int32) ≤ 0 by decide), m_allOfStarts (t := wt w) R34.1.1 h6, zbI_some, b1, zbV_some]
          rw [ite_self] at c1
          exact c1
      · have hy' := hy
        rw [rg_of (by decide)] at hy'
        refine OK2.no (x := -2) 2 hX hM V (by decide) (by decide) (by decide) ?_ fun h1' H i1 i2 R => ⟨H, ?_, R, FM.rf⟩
        · rw [e_X_lots, if_pos h1, if_pos h20]
          by_cases y0 : y < 0
          · rw [if_pos y0, zrx2]
          · rw [if_neg y0, if_neg (show ¬ y ≤ 1 from fun q => by
              have z1 := (nI_le' (n := 1) (by decide)).mp q
              have z2 : ¬ y.toInt < 0 := fun q => y0 (lt0_iff.mpr q)
              omega), zrx2]
        · rw [e_M_lots, i1, i2, m_wrongN, zbI_some, if_pos h1, if_pos h20, wb, zbI_some, if_pos (show ((0 : Int32) = 0 ∧ ¬ rg y (1 + 1)) from ⟨rfl, hy⟩), if_neg (show ¬ (0 : Int32) ≤ -2 by decide), zrm2]
    · refine OK2.no (x := -6) 6 hX hM V (by decide) (by decide) (by decide) ?_ fun h1' H i1 i2 R => ⟨H, ?_, R, FM.rf⟩
      · rw [e_X_lots, if_pos h1, if_neg h20, zrx6]
      · rw [e_M_lots, i1, i2, m_wrongN, zbI_some, if_pos h1, if_neg h20, wb, zbI_some, if_neg (show ¬ ((-6 : Int32) = 0 ∧ ¬ rg y (1 + 1)) from fun q => absurd q.1 (by decide)), if_neg (show ¬ (0 : Int32) ≤ -6 by decide), zrm6]
  · refine OK2.no (x := -4) 4 hX hM V (by decide) (by decide) (by decide) ?_ fun h1' H i1 i2 R => ⟨H, ?_, R, FM.rf⟩
    · rw [e_X_lots, if_neg h1, zrx4]
    · rw [e_M_lots, i1, i2, m_wrongN, zbI_some, if_neg h1, wb, zbI_some, if_neg (show ¬ ((-4 : Int32) = 0 ∧ ¬ rg y (1 + 1)) from fun q => absurd q.1 (by decide)), if_neg (show ¬ (0 : Int32) ≤ -4 by decide), zrm4]
end z56
