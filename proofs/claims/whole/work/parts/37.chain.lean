/-! chains -/
/-- (met, many, last, who) behind at most m more -/
def chF (t : zT) : Nat → Int32 → Int32 → Int32 → Int32 → Int32 × Int32 × Int32 × Int32
  | 0, a, b, c, d => (a, b, c, d)
  | m + 1, a, b, c, d => if d = -9 ∨ a &&& bz d ≠ 0 then (a, b, c, d) else chF t m (a ||| bz d) (b + 1) d (lns t d.toNatClampNeg)
theorem chF_s {t : zT} {m : Nat} {a b c d : Int32} : chF t (m + 1) a b c d = if d = -9 ∨ a &&& bz d ≠ 0 then (a, b, c, d) else chF t m (a ||| bz d) (b + 1) d (lns t d.toNatClampNeg) := rfl
theorem pop_or : ∀ j, j < 64 → ∀ p, p < 6 → nI j &&& bt p = 0 → pop (nI j ||| bt p) = pop (nI j) + 1 := by decide +kernel
theorem pop_6 : ∀ j, j < 64 → pop (nI j) = nI 6 → ∀ p, p < 6 → nI j &&& bt p ≠ 0 := by decide +kernel
theorem has_b : ∀ j, j < 64 → ∀ p, p < 6 → ((nI j >>> (nI p &&& 31)) &&& 1 = 1 ↔ ¬ nI j &&& bt p = 0) := by decide +kernel
def chW (t : zT) (p : Nat) (y : Int32) : Int32 := if y = 0 then (chF t 6 0 0 (nI p) (nI p)).2.1 else (if y = 2 then (chF t 6 0 0 (nI p) (nI p)).2.2.1 else (if (chF t 6 0 0 (nI p) (nI p)).2.2.2 = -9 then 0 else 1))
def pC (b j : Nat) : Prop := b = 123 ∧ (j = 29 ∨ j = 30)
section z37
variable {X : zX} {h : zH} {w : zW} {mx mm : zM} {as : List Value} {t : zT}
theorem s_chF {a : Nat} (H : isH a) (R : HR h a t) (V : tV t) (x y : Int32) : ∀ (m i : Nat) (b1 b2 b3 b4 : Int32), i + m = 6 → (b4 = -9 ∨ ∃ q, q < tn t ∧ b4 = nI q) → zrn X 3 m_H_chainOf 14 [some (.ref a), some (.int x), some (.int y), some (.int b1), some (.int b2), some (.int b3), some (.int b4), some (.int (nI i))] [] h = some (some (.int (if y = 0 then (chF t m b1 b2 b3 b4).2.1 else (if y = 2 then (chF t m b1 b2 b3 b4).2.2.1 else (if (chF t m b1 b2 b3 b4).2.2.2 = -9 then 0 else 1)))), h) := by
  have hn := V.1
  intro m
  induction m with
  | zero =>
    intro i b1 b2 b3 b4 hi hb
    rw [b_H_chainOf_14 H, if_pos (show (6 : Int32) ≤ nI i from nI_le (a := 6) (by omega) (by omega)), zI_ite, zI_ite, zI_ite]
    rfl
  | succ m ih =>
    intro i b1 b2 b3 b4 hi hb
    rw [b_H_chainOf_14 H, if_neg (show ¬ (6 : Int32) ≤ nI i from nI_ge (b := 6) (by omega) (by omega)), chF_s]
    by_cases q : b4 = -9
    · rw [if_pos q, if_pos (Or.inl q), zI_ite, zI_ite, zI_ite]
    · rw [if_neg q, s_bz hb hn, zbI_some]
      by_cases q2 : b1 &&& bz b4 = 0
      · obtain ⟨j, hj, e⟩ := hb.resolve_left q
        rw [if_pos q2, if_neg (show ¬ (b4 = -9 ∨ b1 &&& bz b4 ≠ 0) from fun z => z.elim q (fun z => z q2)), s_bz hb hn, zbI_some, e, s_inLens H R V hj, zbI_some, nI_add1, ih _ _ _ _ _ (by omega) (lns_rg t j), nI_clamp (by omega)]
      · rw [if_neg q2, if_pos (Or.inr q2), zI_ite, zI_ite, zI_ite]
theorem s_chain {a : Nat} (H : isH a) (R : HR h a t) (V : tV t) {p : Nat} (hp : p < tn t) {y : Int32} : zcf X m_H_chainOf [.ref a, .int (nI p), .int y] h = some (some (.int (chW t p y)), h) := by
  rw [e_H_chainOf H]
  exact s_chF H R V _ _ 6 0 _ _ _ _ rfl (Or.inr ⟨p, hp, rfl⟩)
theorem m_hasB {x : Int32} (hx : rg x 64) {p : Nat} (hp : p < 6) : zcf X m_M_hasBit [.int x, .int (nI p)] h = some (some (.int (if x &&& bt p = 0 then 0 else 1)), h) := by
  obtain ⟨j, hj, rfl⟩ := hx
  rw [e_M_hasBit]
  have := has_b j hj p hp
  by_cases q : nI j &&& bt p = 0
  · rw [if_pos q, if_neg (fun z => this.mp z q)]
  · rw [if_neg q, if_pos (this.mpr q)]
theorem m_chStop (x : Int32) {b1 b4 : Int32} (hb1 : rg b1 64) (hb : b4 = -9 ∨ ∃ q, q < 6 ∧ b4 = nI q ∧ b1 &&& bt q ≠ 0) : zrn X 4 m_M_chainFrom 4 [some (.ref 123), some (.int x), some (.int b1), some (.int b4)] [] h = some (some (.int (pop b1)), (zup h.1 123 29 (if b4 = -9 then 0 else 1), h.2)) := by
  rcases hb with rfl | ⟨q, hq, rfl, q6⟩
  · rw [b_M_chainFrom_4, if_pos (by decide), if_pos (by decide), m_pop hb1, zbI_some, if_pos rfl]
  · rw [b_M_chainFrom_4, if_neg (nI_pos (by omega)), m_hasB hb1 hq, zbI_some, if_neg q6, if_neg (by decide), if_neg (nI_pos (by omega)), m_pop hb1, zbI_some]
    have : ∀ q, q < 6 → ¬ nI q = (-9 : Int32) := by decide
    rw [if_neg (this q hq)]
theorem m_chF (V : tV t) (x : Int32) : ∀ (m i : Nat) (h : zH) (b1 b3 b4 : Int32), MR h t → i + m = 6 → rg b1 64 → pop b1 = nI i → (b4 = -9 ∨ ∃ q, q < tn t ∧ b4 = nI q) → (b1 = 0 ∧ b4 ≠ -9 ∨ h.1 123 30 = b3) → ∃ h', zrn X 4 m_M_chainFrom 4 [some (.ref 123), some (.int x), some (.int b1), some (.int b4)] [] h = some (some (.int (chF t m b1 (nI i) b3 b4).2.1), h') ∧ h'.1 123 29 = (if (chF t m b1 (nI i) b3 b4).2.2.2 = -9 then 0 else 1) ∧ h'.1 123 30 = (chF t m b1 (nI i) b3 b4).2.2.1 ∧ FS pC h h' := by
  have hn := V.1
  intro m
  induction m with
  | zero =>
    intro i h b1 b3 b4 R hi hb1 hp hb hl
    have hi6 : i = 6 := by omega
    subst hi6
    have hl2 : h.1 123 30 = b3 := by
      rcases hl with ⟨rfl, _⟩ | hl
      · exact absurd hp (by decide)
      · exact hl
    refine ⟨_, (m_chStop x hb1 ?_).trans (by rw [hp]; rfl), ?_, ?_, FS.up ⟨rfl, Or.inl rfl⟩⟩
    · rcases hb with rfl | ⟨q, hq, rfl⟩
      · exact Or.inl rfl
      · obtain ⟨j, hj, rfl⟩ := id hb1
        exact Or.inr ⟨q, by omega, rfl, pop_6 j hj hp q (by omega)⟩
    · dsimp only; rw [zup_eq]; rfl
    · dsimp only; rw [zup_ns (by decide)]; exact hl2
  | succ m ih =>
    intro i h b1 b3 b4 R hi hb1 hp hb hl
    rw [chF_s]
    by_cases q : b4 = -9 ∨ b1 &&& bz b4 ≠ 0
    · rw [if_pos q]
      have hl2 : h.1 123 30 = b3 := by
        rcases hl with ⟨rfl, hl⟩ | hl
        · rcases q with q | q
          · exact absurd q hl
          · exact absurd (by simp) q
        · exact hl
      refine ⟨_, (m_chStop x hb1 ?_).trans (by rw [hp]), ?_, ?_, FS.up ⟨rfl, Or.inl rfl⟩⟩
      · rcases hb with hb | ⟨p, h1, h2⟩
        · exact Or.inl hb
        · rcases q with q | q
          · exact Or.inl q
          · refine Or.inr ⟨p, by omega, h2, ?_⟩
            rw [h2, bz_nI (by omega)] at q
            exact q
      · dsimp only; rw [zup_eq]
      · dsimp only; rw [zup_ns (by decide)]; exact hl2
    · rw [if_neg q]
      have q1 : ¬ b4 = -9 := fun z => q (Or.inl z)
      have q2 : b1 &&& bz b4 = 0 := by
        by_cases z : b1 &&& bz b4 = 0
        · exact z
        · exact absurd (Or.inr z) q
      obtain ⟨p, h1, rfl⟩ := hb.resolve_left q1
      rw [bz_nI (by omega)] at q2 ⊢
      obtain ⟨j, hj, rfl⟩ := id hb1
      have R1 : MR (zup h.1 123 30 (nI p), h.2) t := R.fld (by decide)
      obtain ⟨h', a1, a2, a3, a4⟩ := ih (i + 1) (zup h.1 123 30 (nI p), h.2) (nI j ||| bt p) (nI p) (lns t p) R1 (by omega) (bt_or j hj p (by omega)).1 (by rw [pop_or j hj p (by omega) q2, hp, nI_add1]) (lns_rg t p) (Or.inr (by dsimp only; rw [zup_eq]))
      rw [nI_clamp (by omega), nI_add1]
      refine ⟨h', ?_, a2, a3, FS.tr (FS.up ⟨rfl, Or.inr rfl⟩) a4⟩
      rw [← a1, b_M_chainFrom_4, if_neg (nI_pos (by omega)), m_hasB hb1 (by omega), zbI_some, if_pos q2, if_pos rfl, m_lensOf R1 V h1, zbI_some]
      rfl
theorem m_chain (R : MR h t) (V : tV t) {p : Nat} (hp : p < tn t) : ∃ h', zcf X m_M_chainFrom [.ref 123, .int (nI p)] h = some (some (.int (chF t 6 0 0 (nI p) (nI p)).2.1), h') ∧ h'.1 123 29 = (if (chF t 6 0 0 (nI p) (nI p)).2.2.2 = -9 then 0 else 1) ∧ h'.1 123 30 = (chF t 6 0 0 (nI p) (nI p)).2.2.1 ∧ FS pC h h' := by
  rw [e_M_chainFrom]
  have hn := V.1
  have : ∀ q, q < 6 → ¬ nI q = (-9 : Int32) := by decide
  exact m_chF V _ 6 0 h 0 (nI p) (nI p) R rfl ⟨0, by decide, rfl⟩ (by decide) (Or.inr ⟨p, hp, rfl⟩) (Or.inl ⟨rfl, this p (by omega)⟩)
theorem pC_S {b j : Nat} (q : pC b j) : pS b j := by unfold pC at q; unfold pS; omega
theorem MR.chn {h' : zH} (R : MR h t) (f : FS pC h h') : MR h' t := by
  have e : ∀ b j, ¬ pC b j → h'.1 b j = h.1 b j := f.2
  unfold pC at e
  exact sM.mr ⟨e 123 0 (by omega), e 123 6 (by omega), fun b j h1 h2 => e b j (by omega)⟩ R
theorem MP.chn {h' : zH} (R : MP h w) (f : FS pC h h') : MP h' w := by
  have e : ∀ b j, ¬ pC b j → h'.1 b j = h.1 b j := f.2
  exact R.of (R.1.1.chn f) ((e 123 6 (by unfold pC; omega)).trans R.1.2) fun b j _ hb => e b j fun z => hb (pC_S z)
/-- one and a number of what: both refuse alike -/
theorem OK2.wh {x y : Int32} {last : Nat} (hl : last < 10) (hX : XP h w) (hM : MP h w) (V : WV w) (A : zX → Int32 → Int32 → Int32 → zH → Option (Option Value × zH)) (B : zX → Int32 → Int32 → Int32 → zH → Option (Option Value × zH)) (ex : zcf X mx [.ref 1, .int x, .int y] h = (zbI (zcf X m_X_wrongWhat [.ref 1, .int x, .int y, .int (nI last)] h) fun v2 h1 => (if v2 = 0 then A X x y v2 h1 else (zbI (zcf X m_X_refuse [.ref 1, .int v2] h1) fun v6 h5 => (some (some (.int v6), h5)))))) (em : ∀ h : zH, zcf X mm [.ref 123, .int x, .int y] h = (zbI (zcf X m_M_isOne [.ref 123, .int x] ((zup h.1 123 7 0), h.2)) fun v2 h1 => (zbI (zcf X m_M_wrongBit [.int (if v2 = 0 then (-1 : Int32) else 0), .int y, .int (nI last)] h1) fun v5 h4 => (if 0 ≤ v5 then B X x y v5 h4 else (zbI (zcf X m_M_refuse [.ref 123, .int v5] h4) fun v9 h8 => (some (some (.int v9), h8))))))) (go : ∀ p, p < tn (wt w) → x = nI p → rg y (last + 1) → ∃ r, (∃ h1, A X x y 0 h = some (some (.int r), h1) ∧ FM pXq h h1) ∧ ∀ H : zH, MP H w → ∃ h2, B X x y 0 H = some (some (.int r), h2) ∧ MP h2 w ∧ FM pMa H h2) : OK2 X mx mm [.int x, .int y] h := by
  have h6 : tn (wt w) ≤ 6 := V.1.1.1
  by_cases hx : rg x (tn (wt w))
  · obtain ⟨p, hp, rfl⟩ := id hx
    by_cases hy : rg y (last + 1)
    · obtain ⟨r, ⟨h1, a1, a2⟩, b⟩ := go p hp rfl hy
      have eq0 : eW (tn (wt w)) (nI p) y last = 0 := by unfold eW; rw [if_pos hx, if_pos hy]
      refine OK2.qy (r := r) hX hM V ⟨h1, ?_, a2⟩ fun h1' H i1 i2 R => ?_
      · rw [ex, s_wrongWhat hX V hl, zbI_some, eq0, if_pos rfl, a1]
      · obtain ⟨h2, b1, b2, b3⟩ := b H R
        refine ⟨h2, ?_, b2, b3⟩
        rw [em, i1, i2, m_isOne1 (h := (H.1, H.2)) R.1.1 h6 hp, zbI_some, if_neg (show ¬ (1 : Int32) = 0 by decide), m_wrongBit hl, zbI_some, if_neg (show ¬ ((0 : Int32) = 0 ∧ ¬ rg y (last + 1)) from fun z => z.2 hy), if_pos (show (0 : Int32) ≤ 0 by decide)]
        exact b1
    · have eq0 : eW (tn (wt w)) (nI p) y last = -2 := by unfold eW; rw [if_pos hx, if_neg hy]
      refine OK2.no (x := -2) 2 hX hM V (by decide) (by decide) (by decide) ?_ fun h1 H i1 i2 R => ⟨H, ?_, R, FM.rf⟩
      · rw [ex, s_wrongWhat hX V hl, zbI_some, eq0, if_neg (by decide), zrx2]
      · rw [em, i1, i2, m_isOne1 (h := (H.1, H.2)) R.1.1 h6 hp, zbI_some, if_neg (show ¬ (1 : Int32) = 0 by decide), m_wrongBit hl, zbI_some, if_pos (show ((0 : Int32) = 0 ∧ ¬ rg y (last + 1)) from ⟨rfl, hy⟩), if_neg (show ¬ (0 : Int32) ≤ -2 by decide), zrm2]
  · have eq0 : eW (tn (wt w)) x y last = -1 := by unfold eW; rw [if_neg hx]
    refine OK2.no (x := -1) 1 hX hM V (by decide) (by decide) (by decide) ?_ fun h1 H i1 i2 R => ⟨H, ?_, R, FM.rf⟩
    · rw [ex, s_wrongWhat hX V hl, zbI_some, eq0, if_neg (by decide), zrx1]
    · rw [em, i1, i2, m_isOne0 (h := (H.1, H.2)) R.1.1 h6 hx, zbI_some, if_pos (show (0 : Int32) = 0 from rfl), m_wrongBit hl, zbI_some, if_neg (show ¬ ((-1 : Int32) = 0 ∧ ¬ rg y (last + 1)) from fun z => absurd z.1 (by decide)), if_neg (show ¬ (0 : Int32) ≤ -1 by decide), zrm1]
theorem ok_chain (hX : XP h w) (hM : MP h w) (V : WV w) {x y : Int32} : OK2 X m_X_chain m_M_chain [.int x, .int y] h := by
  refine OK2.wh (last := 2) (by decide) hX hM V (A := fun X x y _ h => zbI (zcf X m_H_chainOf [.ref 2, .int x, .int y] h) fun v4 h3 => (some (some (.int v4), h3))) (B := fun X x y _ h4 => (zbI (zcf X m_M_chainFrom [.ref 123, .int x] h4) fun v7 h6 => (if y = 0 then (some (some (.int v7), h6)) else (if y = 1 then (some (some (.int (h6.1 123 29)), h6)) else (some (some (.int (h6.1 123 30)), h6)))))) e_X_chain (fun h => e_M_chain) fun p hp hx hy => ⟨chW (wt w) p y, ⟨h, ?_, FM.rf⟩, fun H R => ?_⟩
  · rw [hx, s_chain hH_2 hX.1.1 V.1.1 hp, zbI_some]
    rfl
  · obtain ⟨h2, a1, a2, a3, a4⟩ := m_chain (X := X) R.1.1 V.1.1 hp
    refine ⟨h2, ?_, R.chn a4, FM.mono a4.fm fun b j z => pS_pMa (pC_S z)⟩
    rw [hx, a1, zbI_some]
    unfold chW
    obtain ⟨j, hj, rfl⟩ := hy
    have : j = 0 ∨ j = 1 ∨ j = 2 := by omega
    rcases this with rfl | rfl | rfl
    · rw [if_pos (show nI 0 = 0 from rfl), if_pos (show nI 0 = 0 from rfl)]
    · rw [if_neg (show ¬ nI 1 = 0 by decide), if_pos (show nI 1 = 1 from rfl), if_neg (show ¬ nI 1 = 0 by decide), if_neg (show ¬ nI 1 = 2 by decide), a2]
    · rw [if_neg (show ¬ nI 2 = 0 by decide), if_neg (show ¬ nI 2 = 1 by decide), if_neg (show ¬ nI 2 = 0 by decide), if_pos (show nI 2 = 2 from rfl), a3]
/-! deepest, turnAll -/
def depP (t : zT) (p : Nat) : Int32 := chW t p 0
theorem s_depF (H : isH 2) (R : HR h 2 t) (V : tV t) : ∀ (m p : Nat) (b g : Int32) (gg : Option Value), p + m = tn t → zrn X 4 m_X_deepest 7 [some (.ref 1), some (.int b), some (.int g), some (.int (nI p)), gg] [] h = some (some (.int (gF (depP t) m p b g).1), h) := by
  have hn := V.1
  intro m
  induction m with
  | zero =>
    intro p b g gg hp
    rw [b_X_deepest_7, R.1, if_pos (nI_le (by omega) (by omega))]
    rfl
  | succ m ih =>
    intro p b g gg hp
    rw [b_X_deepest_7, R.1, if_neg (nI_ge (by omega) (by omega)), s_chain H R V (by omega), zbI_some, nI_add1, ih _ _ _ _ (by omega), gF_s]
    by_cases q : chW t p 0 ≤ g
    · rw [if_pos (show depP t p ≤ g from q), if_pos q, if_pos q]
    · rw [if_neg (show ¬ depP t p ≤ g from q), if_neg q, if_neg q]
      rfl
theorem m_depF (V : tV t) : ∀ (m p : Nat) (h : zH) (b g : Int32) (gg : Option Value), MR h t → p + m = tn t → ∃ h', zrn X 5 m_M_deepest 12 [some (.ref 123), some (.int b), some (.int g), some (.int (nI p)), gg] [] h = some (some (.int (gF (depP t) m p b g).1), h') ∧ FS pC h h' := by
  have hn := V.1
  intro m
  induction m with
  | zero =>
    intro p h b g gg R hp
    refine ⟨h, ?_, FS.rf⟩
    rw [b_M_deepest_12, R.1, if_pos (nI_le (by omega) (by omega))]
    rfl
  | succ m ih =>
    intro p h b g gg R hp
    obtain ⟨h1, a1, -, -, a4⟩ := m_chain (X := X) R V (show p < tn t by omega)
    obtain ⟨h2, c1, c2⟩ := ih (p + 1) h1 (if depP t p ≤ g then b else nI p) (if depP t p ≤ g then g else depP t p) (some (Value.int (depP t p))) (R.chn a4) (by omega)
    refine ⟨h2, ?_, a4.tr c2⟩
    have e : (gF (depP t) (m + 1) p b g).1 = (gF (depP t) m (p + 1) (if depP t p ≤ g then b else nI p) (if depP t p ≤ g then g else depP t p)).1 := by
      rw [gF_s]
      by_cases q : depP t p ≤ g
      · rw [if_pos q, if_pos q, if_pos q]
      · rw [if_neg q, if_neg q, if_neg q]
    rw [e, ← c1, b_M_deepest_12, R.1, if_neg (nI_ge (by omega) (by omega)), a1, zbI_some, nI_add1]
    rfl
theorem ok_deepest (hX : XP h w) (hM : MP h w) (V : WV w) : OK2 X m_X_deepest m_M_deepest [] h := by
  refine OK2.qy (r := (gF (depP (wt w)) (tn (wt w)) 0 (-9) 0).1) hX hM V ⟨h, ?_, FM.rf⟩ fun h1 H i1 i2 R => ?_
  · rw [e_X_deepest]
    exact s_depF hH_2 hX.1.1 V.1.1 _ _ _ _ _ (Nat.zero_add _)
  · obtain ⟨h2, a1, a2⟩ := m_depF (X := X) V.1.1 (tn (wt w)) 0 H (-9) 0 none R.1.1 (Nat.zero_add _)
    refine ⟨h2, ?_, R.chn a2, FM.mono a2.fm fun b j z => pS_pMa (pC_S z)⟩
    rw [e_M_deepest, i1, i2]
    exact a1
/-- somebody is seen by each of the faces from i on -/
def sawF (t : zT) (p : Nat) : Nat → Nat → Bool
  | 0, _ => true
  | m + 1, i => if ray t (tC t p) (nI i) (lonP t p) = -9 then false else sawF t p m (i + 1)
theorem sawF_s {p m i : Nat} : sawF t p (m + 1) i = if ray t (tC t p) (nI i) (lonP t p) = -9 then false else sawF t p m (i + 1) := rfl
theorem s_sawF {a : Nat} (H : isH a) (R : HR h a t) (V : tV t) {p : Nat} (hp : p < tn t) : ∀ (m i : Nat), i + m = 4 → zrn X 2 m_H_seesAllWays 2 [some (.ref a), some (.int (nI p)), some (.int (nI i))] [] h = some (some (.int (if sawF t p m i = true then 1 else 0)), h) := by
  have hn := V.1
  intro m
  induction m with
  | zero =>
    intro i hi
    rw [b_H_seesAllWays_2 H, if_pos (show (4 : Int32) ≤ nI i from nI_le (a := 4) (by omega) (by omega))]
    rfl
  | succ m ih =>
    intro i hi
    obtain ⟨e, he, q⟩ := tV_rch V hp
    rw [b_H_seesAllWays_2 H, if_neg (show ¬ (4 : Int32) ≤ nI i from nI_ge (b := 4) (by omega) (by omega)), s_reachOf H R hn hp, zbI_some, s_nextTo H R hn hp ⟨e, by omega, q⟩, zbI_some, nI_add1, sawF_s]
    by_cases r : ray t (tC t p) (nI i) (rch (tK t p) (tF t p)) = -9
    · rw [if_pos r, if_pos (show ray t (tC t p) (nI i) (lonP t p) = -9 from r)]
      rfl
    · rw [if_neg r, if_neg (show ¬ ray t (tC t p) (nI i) (lonP t p) = -9 from r), ih _ (by omega)]
def talF (t : zT) : Nat → Nat → Int32 → Int32
  | 0, _, y => y
  | m + 1, p, y => if ahd t p = -9 then talF t m (p + 1) y else (if sawF t p 4 0 = true then -9 else talF t m (p + 1) (y + 1))
theorem talF_s {m p : Nat} {y : Int32} : talF t (m + 1) p y = if ahd t p = -9 then talF t m (p + 1) y else (if sawF t p 4 0 = true then -9 else talF t m (p + 1) (y + 1)) := rfl
theorem s_talF (H : isH 2) (R : HR h 2 t) (V : tV t) : ∀ (m p : Nat) (y : Int32), p + m = tn t → zrn X 3 m_X_turnAll 4 [some (.ref 1), some (.int y), some (.int (nI p))] [] h = some (some (.int (talF t m p y)), h) := by
  have hn := V.1
  intro m
  induction m with
  | zero =>
    intro p y hp
    rw [b_X_turnAll_4, R.1, if_pos (nI_le (by omega) (by omega))]
    rfl
  | succ m ih =>
    intro p y hp
    rw [b_X_turnAll_4, R.1, if_neg (nI_ge (by omega) (by omega)), s_ahead H R V (by omega), zbI_some, nI_add1, talF_s]
    by_cases q : ahd t p = -9
    · rw [if_pos q, if_pos q, ih _ _ (by omega)]
    · rw [if_neg q, if_neg q, e_H_seesAllWays H]
      rw [show zrn X 2 m_H_seesAllWays 2 [some (.ref 2), some (.int (nI p)), some (.int 0)] [] h = _ from s_sawF H R V (by omega) 4 0 rfl, zbI_some]
      by_cases r : sawF t p 4 0 = true
      · rw [if_pos r, if_pos r, if_neg (by decide)]
      · rw [if_neg r, if_neg r, if_pos rfl, ih _ _ (by omega)]
theorem m_sawF (R : MR h t) (V : tV t) {p : Nat} (hp : p < tn t) (y : Int32) : ∀ (m i : Nat) (b : Bool), i + m = 4 → zrn X 4 m_M_turnAll 30 [some (.ref 123), some (.int y), some (.int (nI p)), some (.int (if b = true then 0 else 1)), some (.int (nI i))] [] h = if (b && sawF t p m i) = true then some (some (.int (-9)), h) else zrn X 4 m_M_turnAll 9 [some (.ref 123), some (.int (y + 1)), some (.int (nI (p + 1))), some (.int 1), some (.int 4)] [] h := by
  have hn := V.1
  obtain ⟨r1, r2, r3, r4, r5⟩ := R.2 p hp
  obtain ⟨v1, v2, v3, v4, v5⟩ := V.2 p hp
  intro m
  induction m with
  | zero =>
    intro i b hi
    have : i = 4 := by omega
    subst this
    rw [b_M_turnAll_30, if_pos (by decide), nI_add1]
    cases b
    · rw [if_neg (by decide), if_neg (by decide)]
      rfl
    · rw [if_pos (show (if true = true then (0 : Int32) else 1) = 0 from rfl), if_pos (show (true && sawF t p 0 4) = true from rfl)]
  | succ m ih =>
    intro i b hi
    obtain ⟨e, he, q⟩ := tV_rch V hp
    rw [b_M_turnAll_30, if_neg (show ¬ (4 : Int32) ≤ nI i from nI_ge (b := 4) (by omega) (by omega)), nI_add1]
    cases b
    · rw [if_neg (by decide), show (1 : Int32) = (if false = true then 0 else 1) from rfl, ih (i + 1) false (by omega)]
      rfl
    · rw [if_pos (by decide), if_pos (zin_nI (by omega) (by decide)), nI_clamp (by omega), r3, m_reachOf R hn hp, zbI_some, m_nextFrom R hn v3 ⟨i, by omega, rfl⟩ ⟨e, by omega, q⟩, zbI_some, sawF_s]
      rcases ray_rg t (tC t p) (nI i) (lonP t p) with r | ⟨j, hj, r⟩
      · rw [show ray t (tC t p) (nI i) (rch (tK t p) (tF t p)) = -9 from r, r, if_neg (show ¬ (0 : Int32) ≤ -9 by decide), if_pos rfl, show (1 : Int32) = (if false = true then 0 else 1) from rfl, ih (i + 1) false (by omega)]
        rfl
      · have : ∀ q, q < 6 → ¬ nI q = (-9 : Int32) := by decide
        rw [show ray t (tC t p) (nI i) (rch (tK t p) (tF t p)) = nI j from r, r, if_pos (nI_pos' (by omega)), if_neg (this j (by omega))]
        exact ih (i + 1) true (by omega)
theorem m_talF (R : MR h t) (V : tV t) : ∀ (m p : Nat) (y : Int32) (g1 g2 : Option Value), p + m = tn t → zrn X 4 m_M_turnAll 9 [some (.ref 123), some (.int y), some (.int (nI p)), g1, g2] [] h = some (some (.int (talF t m p y)), h) := by
  have hn := V.1
  intro m
  induction m with
  | zero =>
    intro p y g1 g2 hp
    rw [b_M_turnAll_9, R.1, if_pos (nI_le (by omega) (by omega))]
    rfl
  | succ m ih =>
    intro p y g1 g2 hp
    rw [b_M_turnAll_9, R.1, if_neg (nI_ge (by omega) (by omega)), m_aheadOf R V (by omega), zbI_some, nI_add1, talF_s]
    rcases ahd_rg t p with q | ⟨j, hj, q⟩
    · rw [if_pos q, q, if_pos (by decide), ih _ _ _ _ (by omega)]
    · have : ∀ q, q < 6 → ¬ nI q = (-9 : Int32) := by decide
      rw [q, if_neg (nI_pos (by omega)), if_neg (this j (by omega))]
      rw [show zrn X 4 m_M_turnAll 30 [some (.ref 123), some (.int y), some (.int (nI p)), some (.int 0), some (.int 0)] [] h = _ from m_sawF R V (by omega) y 4 0 true rfl]
      by_cases r : sawF t p 4 0 = true
      · rw [if_pos r, if_pos (by rw [r]; rfl)]
      · rw [if_neg r, if_neg (by rw [Bool.true_and]; exact r), ih _ _ _ _ (by omega)]
theorem ok_turnAll (hX : XP h w) (hM : MP h w) (V : WV w) : OK2 X m_X_turnAll m_M_turnAll [] h := OK2.q0 hX hM V (by rw [e_X_turnAll]; exact s_talF hH_2 hX.1.1 V.1.1 _ _ _ (Nat.zero_add _)) fun h1 H i1 i2 R => by
  rw [e_M_turnAll, i1, i2]
  exact m_talF R.1.1 V.1.1 _ _ _ _ _ (Nat.zero_add _)
end z37
