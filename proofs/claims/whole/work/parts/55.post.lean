/-! post -/
theorem bes_up : ∀ j, j < 36 → ∀ i, i < 4 → (bes (nI j) (nI i) = -1 ∨ ((i = 1 ∨ i = 2) ∧ nI j < bes (nI j) (nI i)) ∨ ((i = 0 ∨ i = 3) ∧ bes (nI j) (nI i) < nI j)) := by decide +kernel
/-- looking straight one does not find who stands where one looks from, or behind -/
theorem rayF_ne {n : Nat} (hn : n ≤ 6) {C : zA} {i p : Nat} (hi : i < 4) : ∀ (m : Nat) (c : Int32), rg c 36 → (((i = 1 ∨ i = 2) ∧ (C p).toInt ≤ c.toInt) ∨ ((i = 0 ∨ i = 3) ∧ c.toInt ≤ (C p).toInt)) → p < 6 → rayF n C (nI i) m c ≠ nI p := by
  intro m
  induction m with
  | zero =>
    intro c _ _ hp
    exact ((by decide : ∀ p, p < 6 → ¬ (-9 : Int32) = nI p) p hp)
  | succ m ih =>
    rintro c ⟨j, hj, rfl⟩ hc hp
    unfold rayF
    have b := bes_up j hj i hi
    have br := bes_rg j hj i hi
    by_cases b1 : bes (nI j) (nI i) = -1
    · rw [if_pos b1]
      exact ((by decide : ∀ p, p < 6 → ¬ (-9 : Int32) = nI p) p hp)
    · rw [if_neg b1]
      have b' : ((i = 1 ∨ i = 2) ∧ (C p).toInt < (bes (nI j) (nI i)).toInt) ∨ ((i = 0 ∨ i = 3) ∧ (bes (nI j) (nI i)).toInt < (C p).toInt) := by
        rcases b with b | b | b
        · exact absurd b b1
        · have := Int32.lt_iff_toInt_lt.mp b.2
          exact Or.inl ⟨b.1, by omega⟩
        · have := Int32.lt_iff_toInt_lt.mp b.2
          exact Or.inr ⟨b.1, by omega⟩
      have bg : rg (bes (nI j) (nI i)) 36 := by
        rcases br with z | z
        · exact absurd z b1
        · exact z
      by_cases f : who n C (bes (nI j) (nI i)) = -9
      · rw [if_pos f]
        exact ih _ bg (by omega) hp
      · rw [if_neg f]
        intro e
        rcases whoF_rg C (bes (nI j) (nI i)) n 0 with z | ⟨q, q1, q2, q3, q4⟩
        · exact f z
        · have : nI p = nI q := e.symm.trans q3
          have := (nI_eq (a := p) (b := q) (by omega) (by omega)).mp this
          rw [← this] at q4
          rw [q4] at b'
          omega
theorem ahd_self' {t : zT} (V : tV t) {p : Nat} (hp : p < tn t) : ahd t p ≠ nI p := by
  have h6 := V.1
  obtain ⟨-, -, hc, ⟨i, hi, ei⟩, -⟩ := V.2 p hp
  unfold ahd ray
  rw [ei]
  refine rayF_ne V.1 hi _ _ hc ?_ (by omega)
  have : i = 0 ∨ i = 1 ∨ i = 2 ∨ i = 3 := by omega
  omega
/-- the newcomer, as one tries him -/
def nwc (t : zT) (k : Int32) (c f : Nat) : zT := jn t k 5 (nI c) (nI f)
theorem jn_wC {t : zT} {k f c d c' : Int32} : wC (jn t k f c d) (tn t) c' = jn t k f c' d := by
  show (_, _, _, zua (zua (tC t) (tn t) c) (tn t) c', _, _) = _
  rw [zua_zua]
  rfl
theorem jn_wD {t : zT} {k f c d d' : Int32} : wD (jn t k f c d) (tn t) d' = jn t k f c d' := by
  show (_, _, _, _, zua (zua (tD t) (tn t) d) (tn t) d', _) = _
  rw [zua_zua]
  rfl
theorem jn_tn {t : zT} {k f c d : Int32} : tn (jn t k f c d) = tn t + 1 := rfl
theorem fsF_ne : ∀ c, c < 36 → ∀ f, f < 4 → 10 * nI c + nI f ≠ -9 := by decide +kernel
/-- which faces nobody has who watches him does not hang on his own -/
theorem wat_jn {t : zT} (V : tV t) (hn : tn t < 6) {k c : Int32} {f f' : Nat} (hk : rg k 6) (hc : rg c 36) (hf : f < 4) (hf' : f' < 4) : wat (jn t k 5 c (nI f)) (nI (tn t)) = wat (jn t k 5 c (nI f')) (nI (tn t)) := by
  have V1 := jn_V V hn hk (f := 5) ⟨5, by decide, rfl⟩ hc (d := nI f) ⟨f, hf, rfl⟩
  have V2 := jn_V V hn hk (f := 5) ⟨5, by decide, rfl⟩ hc (d := nI f') ⟨f', hf', rfl⟩
  unfold wat
  refine fold_congr _ _ _ fun q y _ h2 => ?_
  have h2' : q < tn t + 1 := by rw [jn_tn, Nat.zero_add] at h2; exact h2
  by_cases e : q = tn t
  · rw [e, if_neg (ahd_self' V1 (p := tn t) (Nat.lt_succ_self _)), if_neg (ahd_self' V2 (p := tn t) (Nat.lt_succ_self _))]
  · have : ahd (jn t k 5 c (nI f)) q = ahd (jn t k 5 c (nI f')) q := by
      unfold ahd
      show ray _ (zua (tC t) (tn t) c q) (zua (tD t) (tn t) (nI f) q) _ = ray _ (zua (tC t) (tn t) c q) (zua (tD t) (tn t) (nI f') q) _
      rw [zua_ne e, zua_ne e, zua_ne e]
      rfl
    rw [this]
/-- he sees one ahead and has none in the lens -/
def posP (t : zT) (k : Int32) (c f : Nat) : Bool := decide (ahd (nwc t k c f) (tn t) ≠ -9 ∧ lns (nwc t k c f) (tn t) = -9)
def posC (t : zT) (k : Int32) (c : Nat) : Bool := decide (who (tn t) (tC t) (nI c) = -9 ∧ wat (nwc t k c 0) (nI (tn t)) = 0)
def fcU (P : Nat → Bool) : Nat → Nat → Int32
  | 0, _ => -9
  | m + 1, f => if P f = true then nI f else fcU P m (f + 1)
theorem fcU_s {P : Nat → Bool} {m f : Nat} : fcU P (m + 1) f = if P f = true then nI f else fcU P m (f + 1) := rfl
def posU (C : Nat → Bool) (P : Nat → Nat → Bool) : Nat → Nat → Int32
  | 0, _ => -9
  | m + 1, c => if C c = true then (if fcU (P c) 4 0 = -9 then posU C P m (c + 1) else 10 * nI c + fcU (P c) 4 0) else posU C P m (c + 1)
theorem posU_s {C : Nat → Bool} {P : Nat → Nat → Bool} {m c : Nat} : posU C P (m + 1) c = if C c = true then (if fcU (P c) 4 0 = -9 then posU C P m (c + 1) else 10 * nI c + fcU (P c) 4 0) else posU C P m (c + 1) := rfl
def posD (C : Nat → Bool) (P : Nat → Nat → Bool) : Nat → Int32 → Int32
  | 0, g => g
  | m + 1, g => posD C P m (if C (m / 4) = true then (if P (m / 4) (m % 4) = true then 10 * nI (m / 4) + nI (m % 4) else g) else g)
theorem posD_s {C : Nat → Bool} {P : Nat → Nat → Bool} {m : Nat} {g : Int32} : posD C P (m + 1) g = posD C P m (if C (m / 4) = true then (if P (m / 4) (m % 4) = true then 10 * nI (m / 4) + nI (m % 4) else g) else g) := rfl
/-- four steps down are one cell -/
theorem posD_4 {C : Nat → Bool} {P : Nat → Nat → Bool} {m : Nat} {g : Int32} : posD C P (4 * m + 4) g = posD C P (4 * m) (if C m = true then (if fcU (P m) 4 0 = -9 then g else 10 * nI m + fcU (P m) 4 0) else g) := by
  rw [posD_s, posD_s, posD_s, posD_s]
  rw [show (4 * m + 3) / 4 = m by omega, show (4 * m + 3) % 4 = 3 by omega, show (4 * m + 2) / 4 = m by omega, show (4 * m + 2) % 4 = 2 by omega, show (4 * m + 1) / 4 = m by omega, show (4 * m + 1) % 4 = 1 by omega, show (4 * m) / 4 = m by omega, show (4 * m) % 4 = 0 by omega]
  refine congrArg (posD C P (4 * m)) ?_
  have n9 : ¬ nI 0 = -9 ∧ ¬ nI 1 = -9 ∧ ¬ nI 2 = -9 ∧ ¬ nI 3 = -9 := by decide
  obtain ⟨n0, n1, n2, n3⟩ := n9
  by_cases c : C m = true
  · simp only [if_pos c, fcU_s]
    by_cases p0 : P m 0 = true
    · simp only [if_pos p0, if_neg n0]
    · by_cases p1 : P m (0 + 1) = true
      · have p1' : P m 1 = true := p1
        simp only [if_neg p0, if_pos p1, if_pos p1', if_neg n1, Nat.zero_add]
      · have p1' : ¬ P m 1 = true := p1
        by_cases p2 : P m (0 + 1 + 1) = true
        · have p2' : P m 2 = true := p2
          simp only [if_neg p0, if_neg p1, if_neg p1', if_pos p2, if_pos p2', if_neg n2, Nat.zero_add, Nat.reduceAdd]
        · have p2' : ¬ P m 2 = true := p2
          by_cases p3 : P m (0 + 1 + 1 + 1) = true
          · have p3' : P m 3 = true := p3
            simp only [if_neg p0, if_neg p1, if_neg p1', if_neg p2, if_neg p2', if_pos p3, if_pos p3', if_neg n3, Nat.zero_add, Nat.reduceAdd]
          · have p3' : ¬ P m 3 = true := p3
            simp only [if_neg p0, if_neg p1, if_neg p1', if_neg p2, if_neg p2', if_neg p3, if_neg p3']
            rfl
  · simp only [if_neg c]
theorem posU_end {C : Nat → Bool} {P : Nat → Nat → Bool} (hv : ∀ c, c < 36 → fcU (P c) 4 0 ≠ -9 → 10 * nI c + fcU (P c) 4 0 ≠ -9) : ∀ (m c : Nat), c + m < 36 → posU C P (m + 1) c = if posU C P m c = -9 then (if C (c + m) = true then (if fcU (P (c + m)) 4 0 = -9 then -9 else 10 * nI (c + m) + fcU (P (c + m)) 4 0) else -9) else posU C P m c := by
  intro m
  induction m with
  | zero =>
    intro c hc
    show (if C c = true then (if fcU (P c) 4 0 = -9 then -9 else 10 * nI c + fcU (P c) 4 0) else -9) = if (-9 : Int32) = -9 then _ else _
    rw [if_pos rfl, Nat.add_zero]
  | succ m ih =>
    intro c hc
    rw [posU_s, ih (c + 1) (by omega), posU_s, show c + 1 + m = c + (m + 1) by omega]
    by_cases q : C c = true
    · rw [if_pos q, if_pos q]
      by_cases z : fcU (P c) 4 0 = -9
      · rw [if_pos z, if_pos z]
      · rw [if_neg z, if_neg z, if_neg (hv c (by omega) z)]
    · rw [if_neg q, if_neg q]
theorem pos_eq {C : Nat → Bool} {P : Nat → Nat → Bool} (hv : ∀ c, c < 36 → fcU (P c) 4 0 ≠ -9 → 10 * nI c + fcU (P c) 4 0 ≠ -9) : ∀ (m : Nat) (g : Int32), m ≤ 36 → posD C P (4 * m) g = if posU C P m 0 = -9 then g else posU C P m 0 := by
  intro m
  induction m with
  | zero => intro g _; rfl
  | succ m ih =>
    intro g hm
    rw [show 4 * (m + 1) = 4 * m + 4 by omega, posD_4, ih _ (by omega), posU_end hv m 0 (by omega), Nat.zero_add]
    by_cases z : posU C P m 0 = -9
    · rw [if_pos z, if_pos z]
      by_cases c : C m = true
      · rw [if_pos c, if_pos c]
        by_cases f : fcU (P m) 4 0 = -9
        · rw [if_pos f, if_pos f, if_pos rfl]
        · rw [if_neg f, if_neg f, if_neg (hv m (by omega) f)]
      · rw [if_neg c, if_neg c, if_pos rfl]
    · rw [if_neg z, if_neg z, if_neg z]
theorem fcU_rg {P : Nat → Bool} : ∀ (m f : Nat), f + m = 4 → fcU P m f = -9 ∨ ∃ q, q < 4 ∧ fcU P m f = nI q := by
  intro m
  induction m with
  | zero => intro f _; exact Or.inl rfl
  | succ m ih =>
    intro f hf
    rw [fcU_s]
    split
    · exact Or.inr ⟨f, by omega, rfl⟩
    · exact ih (f + 1) (by omega)
theorem pos_v {P : Nat → Nat → Bool} : ∀ c, c < 36 → fcU (P c) 4 0 ≠ -9 → 10 * nI c + fcU (P c) 4 0 ≠ -9 := by
  intro c hc h
  rcases fcU_rg (P := P c) 4 0 rfl with z | ⟨q, hq, z⟩
  · exact absurd z h
  · rw [z]; exact fsF_ne c hc q hq
theorem pos_eq0 {C : Nat → Bool} {P : Nat → Nat → Bool} : posD C P 144 (-9) = posU C P 36 0 := by
  rw [show 144 = 4 * 36 from rfl, pos_eq pos_v 36 (-9) (Nat.le_refl _)]
  by_cases z : posU C P 36 0 = -9
  · rw [if_pos z, z]
  · rw [if_neg z]
theorem d144 : ∀ m, m < 144 → nI m / 4 = nI (m / 4) ∧ zrem (nI m) 4 = nI (m % 4) := by decide +kernel
section z55
variable {X : zX} {h h0 : zH} {w : zW} {mx mm : zM} {as : List Value} {t : zT} {a : Nat}
theorem s_fcU {k : Int32} {c : Nat} (hk : rg k 6) (hc : c < 36) (V : tV t) (hn : tn t < 6) : ∀ (m f v : Nat) (h : zH), f + m = 4 → v < 4 → HR h 8 (nwc t k c v) → FM pXq h0 h → ∃ h' v', v' < 4 ∧ zrn X 3 m_H_facesToSeeUnseen 2 [some (.ref 8), some (.int (nI (tn t))), some (.int (nI f))] [] h = some (some (.int (fcU (posP t k c) m f)), h') ∧ HR h' 8 (nwc t k c v') ∧ FM pXq h0 h' := by
  intro m
  induction m with
  | zero =>
    intro f v h hf hv R F
    refine ⟨h, v, hv, ?_, R, F⟩
    rw [b_H_facesToSeeUnseen_2 hH_8, if_pos (show (4 : Int32) ≤ nI f from nI_le (a := 4) (by omega) (by omega))]
    rfl
  | succ m ih =>
    intro f v h hf hv R F
    have V1 : tV (nwc t k c f) := jn_V V hn hk ⟨5, by decide, rfl⟩ ⟨c, hc, rfl⟩ ⟨f, by omega, rfl⟩
    have R1 : HR (zup h.1 (8 + 4) (tn t) (nI f), h.2) 8 (nwc t k c f) := by
      have := HR.uD (p := tn t) (v := nI f) R
      unfold nwc at this
      rw [jn_wD] at this
      exact this
    have F1 : FM pXq h0 (zup h.1 (8 + 4) (tn t) (nI f), h.2) := F.tr (FM.up (by unfold pXq; decide))
    have hp : tn t < tn (nwc t k c f) := Nat.lt_succ_self _
    rw [b_H_facesToSeeUnseen_2 hH_8, if_neg (show ¬ (4 : Int32) ≤ nI f from nI_ge (b := 4) (by omega) (by omega)), s_put (b := 8 + 4) hH_8.k3 (by omega) (show tn t < 6 by omega) (by decide), zbV_some, s_ahead hH_8 R1 V1 hp, zbI_some, s_inLens hH_8 R1 V1 hp, zbI_some, fcU_s, nI_add1]
    by_cases al : ahd (nwc t k c f) (tn t) = -9
    · rw [if_pos al, if_neg (show ¬ posP t k c f = true by unfold posP; simp [al])]
      exact ih (f + 1) f _ (by omega) (by omega) R1 F1
    · rw [if_neg al]
      by_cases l : lns (nwc t k c f) (tn t) = -9
      · rw [if_pos l, if_pos (show posP t k c f = true by unfold posP; exact decide_eq_true ⟨al, l⟩)]
        exact ⟨_, f, by omega, rfl, R1, F1⟩
      · rw [if_neg l, if_neg (show ¬ posP t k c f = true by unfold posP; simp [l])]
        exact ih (f + 1) f _ (by omega) (by omega) R1 F1
theorem s_posU {k : Int32} (hX0 : HR h0 2 t) (hk : rg k 6) (V : tV t) (hn : tn t < 6) : ∀ (m c : Nat) (u : Int32) (v : Nat) (h : zH) (g4 : Option Value), c + m = 36 → v < 4 → HR h 8 (jn t k 5 u (nI v)) → FM pXq h0 h → ∃ h', zrn X 4 m_X_post 58 [some (.ref 1), some (.int k), some (.int (nI (tn t))), some (.int (nI c)), g4] [] h = some (some (.int (posU (posC t k) (posP t k) m c)), h') ∧ FM pXq h0 h' := by
  have h6 := V.1
  intro m
  induction m with
  | zero =>
    intro c u v h g4 hc hv R F
    refine ⟨h, ?_, F⟩
    rw [b_X_post_58, if_pos (show (36 : Int32) ≤ nI c from nI_le (a := 36) (by omega) (by omega))]
    rfl
  | succ m ih =>
    intro c u v h g4 hc hv R F
    have X2 : HR h 2 t := hX0.of fun b j h1 h2 => F b j (by unfold pXq; omega)
    rw [b_X_post_58, if_neg (show ¬ (36 : Int32) ≤ nI c from nI_ge (b := 36) (by omega) (by omega)), s_isFree hH_2 X2 h6, zbI_some, posU_s, nI_add1]
    by_cases fr : who (tn t) (tC t) (nI c) = -9
    · have R1 : HR (zup h.1 (8 + 3) (tn t) (nI c), h.2) 8 (nwc t k c v) := by
        have := HR.uC (p := tn t) (v := nI c) R
        rw [jn_wC] at this
        exact this
      have F1 : FM pXq h0 (zup h.1 (8 + 3) (tn t) (nI c), h.2) := F.tr (FM.up (by unfold pXq; decide))
      have V1 : tV (nwc t k c v) := jn_V V hn hk ⟨5, by decide, rfl⟩ ⟨c, by omega, rfl⟩ ⟨v, hv, rfl⟩
      have ew : wat (nwc t k c v) (nI (tn t)) = wat (nwc t k c 0) (nI (tn t)) := wat_jn V hn hk ⟨c, by omega, rfl⟩ hv (by decide)
      rw [if_pos fr, if_neg (show ¬ (1 : Int32) = 0 by decide), s_place hH_8 (by omega), zbV_some, s_watchers hH_8 R1 V1, zbI_some, ew]
      by_cases ww : wat (nwc t k c 0) (nI (tn t)) = 0
      · obtain ⟨h2, v', hv', a1, a2, a3⟩ := s_fcU (X := X) (h0 := h0) hk (show c < 36 by omega) V hn 4 0 v _ rfl hv R1 F1
        rw [if_pos ww, e_H_facesToSeeUnseen hH_8, show zrn X 3 m_H_facesToSeeUnseen 2 [some (.ref 8), some (.int (nI (tn t))), some (.int 0)] [] _ = _ from a1, zbI_some, if_pos (show posC t k c = true by unfold posC; exact decide_eq_true ⟨fr, ww⟩)]
        by_cases z : fcU (posP t k c) 4 0 = -9
        · rw [if_pos z, if_pos z]
          exact ih (c + 1) (nI c) v' h2 _ (by omega) hv' a2 a3
        · rw [if_neg z, if_neg z]
          exact ⟨h2, rfl, a3⟩
      · rw [if_neg ww, if_neg (show ¬ posC t k c = true by unfold posC; simp [ww])]
        exact ih (c + 1) (nI c) v _ _ (by omega) hv R1 F1
    · rw [if_neg fr, if_pos (show (0 : Int32) = 0 from rfl), if_neg (show ¬ posC t k c = true by unfold posC; simp [fr])]
      exact ih (c + 1) u v h _ (by omega) hv R F
theorem m_posD {k f2 : Int32} (R0 : MP h0 w) (V : WV w) (hk : rg k 6) (hn : tn (wt w) < 6) : ∀ (m : Nat) (g : Int32) (h : zH) (g6 : Option Value), m ≤ 144 → BK h0 h → ∃ h', zrn X 5 m_M_post 66 [some (.ref 123), some (.int k), some (.int f2), some (.int g), some (.int (nI (tn (wt w)))), some (.int (nI m - 1)), g6] [] h = some (some (.int (posD (posC (wt w) k) (posP (wt w) k) m g)), h') ∧ BK h0 h' := by
  have h6 : tn (wt w) ≤ 6 := V.1.1.1
  intro m
  induction m with
  | zero =>
    intro g h g6 _ K
    exact ⟨h, by rw [b_M_post_66, if_pos (show nI 0 - 1 < 0 by decide)]; rfl, K⟩
  | succ m ih =>
    intro g h g6 hm K
    have T := K.th R0 V
    have e1 : nI (m + 1) - 1 = nI m := by rw [nI_sub1 (by omega)]; rfl
    have e2 : nI m + (-1) = nI m - 1 := (Int32.sub_eq_add_neg _ _).symm
    obtain ⟨d1, d2⟩ := d144 m (by omega)
    obtain ⟨n3, n4⟩ := neg9 h6 (show who (tn (wt w)) (tC (wt w)) (nI (m / 4)) = -9 ∨ ∃ q, q < tn (wt w) ∧ who (tn (wt w)) (tC (wt w)) (nI (m / 4)) = nI q by
      rcases whoF_rg (tC (wt w)) (nI (m / 4)) (tn (wt w)) 0 with z | ⟨q, _, z2, z3, _⟩
      · exact Or.inl z
      · exact Or.inr ⟨q, by omega, z3⟩)
    rw [e1, b_M_post_66, if_neg (nI_pos (by omega)), d1, d2, m_oneIn T.1 h6, zbI_some, e2, posD_s]
    by_cases fr : who (tn (wt w)) (tC (wt w)) (nI (m / 4)) = -9
    · obtain ⟨h1, a1, a2, a3, a4⟩ := m_oneComes (X := X) (k := k) (f := 5) (c := nI (m / 4)) (d := nI (m % 4)) T.1 hn
      have V1 : tV (nwc (wt w) k (m / 4) (m % 4)) := jn_V V.1.1 hn hk ⟨5, by decide, rfl⟩ ⟨m / 4, by omega, rfl⟩ ⟨m % 4, by omega, rfl⟩
      have T1 : TH h0 (nwc (wt w) k (m / 4) (m % 4)) h1 := T.go a2 (fun b j hb => a4 b j (fun z => hb (by unfold pT pS; omega)) (fun z => hb (by unfold pT pS; omega))) V1
      obtain ⟨h2, b1, b2⟩ := T1.bk (X := X)
      have hp : tn (wt w) < tn (nwc (wt w) k (m / 4) (m % 4)) := Nat.lt_succ_self _
      have ew : wat (nwc (wt w) k (m / 4) (m % 4)) (nI (tn (wt w))) = wat (nwc (wt w) k (m / 4) 0) (nI (tn (wt w))) := wat_jn V.1.1 hn hk ⟨m / 4, by omega, rfl⟩ (Nat.mod_lt _ (by decide)) (by decide)
      obtain ⟨n5, n6⟩ := neg9 (show tn (nwc (wt w) k (m / 4) (m % 4)) ≤ 6 from hn) (ahd_rg (nwc (wt w) k (m / 4) (m % 4)) (tn (wt w)))
      obtain ⟨n7, n8⟩ := neg9 (show tn (nwc (wt w) k (m / 4) (m % 4)) ≤ 6 from hn) (lns_rg (nwc (wt w) k (m / 4) (m % 4)) (tn (wt w)))
      rw [if_neg (fun z => n4.mp z fr), a1, zbV_some, m_aheadOf T1.1 V1 hp, zbI_some, m_lensOf T1.1 V1 hp, zbI_some, m_watchersOf T1.1 V1, zbI_some, b1, zbV_some, zbV_some, ew]
      by_cases al : ahd (nwc (wt w) k (m / 4) (m % 4)) (tn (wt w)) = -9
      · have np : ¬ posP (wt w) k (m / 4) (m % 4) = true := by unfold posP; simp [al]
        rw [if_pos (n5.mpr al), if_neg np, ite_self]
        exact ih g h2 _ (by omega) b2
      · rw [if_neg (fun z => al (n5.mp z))]
        by_cases l : lns (nwc (wt w) k (m / 4) (m % 4)) (tn (wt w)) = -9
        · have np : posP (wt w) k (m / 4) (m % 4) = true := by unfold posP; exact decide_eq_true ⟨al, l⟩
          rw [if_neg (fun z => n8.mp z l), if_pos np]
          by_cases ww : wat (nwc (wt w) k (m / 4) 0) (nI (tn (wt w))) = 0
          · have nc : posC (wt w) k (m / 4) = true := by unfold posC; exact decide_eq_true ⟨fr, ww⟩
            rw [if_pos ww, if_neg (show ¬ (1 : Int32) = 0 by decide), if_pos nc]
            exact ih _ h2 _ (by omega) b2
          · have nc : ¬ posC (wt w) k (m / 4) = true := by unfold posC; simp [ww]
            rw [if_neg ww, if_pos (show (0 : Int32) = 0 from rfl), if_neg nc]
            exact ih g h2 _ (by omega) b2
        · have np : ¬ posP (wt w) k (m / 4) (m % 4) = true := by unfold posP; simp [l]
          rw [if_pos (n8.mpr l), if_neg np, ite_self]
          exact ih g h2 _ (by omega) b2
    · have nc : ¬ posC (wt w) k (m / 4) = true := by unfold posC; simp [fr]
      rw [if_pos (n4.mpr fr), if_neg nc]
      exact ih g h _ (by omega) K
theorem ok_post (hX : XP h w) (hM : MP h w) (V : WV w) {k : Int32} : OK2 X m_X_post m_M_post [.int k] h := by
  have h6 : tn (wt w) ≤ 6 := V.1.1.1
  by_cases hk : rg k 6
  · have hk' := hk
    rw [rg_of (by decide)] at hk'
    by_cases hn : tn (wt w) < 6
    · have hn6 : ¬ nI (tn (wt w)) = (6 : Int32) := fun z => absurd ((nI_eq (b := 6) (by omega) (by decide)).mp z) (by omega)
      have hl6 : nI (tn (wt w)) < (6 : Int32) := nI_lt (b := 6) hn (by omega)
      obtain ⟨h1, a1, a2⟩ := s_mind (X := X) hX V
      obtain ⟨h2, b1, b2, b3, b4⟩ := s_join (X := X) (k := k) (f := 5) (c := -1) (d := 0) hH_8 a2.1 hn
      obtain ⟨h3, c1, c2⟩ := s_posU (X := X) (t := wt w) hX.1.1 hk V.1.1 hn 36 0 (-1) 0 h2 none rfl (by decide) b2 (a2.2.1.tr (b4.fm fun b j _ _ => by unfold pXq; omega))
      refine OK2.qy (r := posU (posC (wt w) k) (posP (wt w) k) 36 0) hX hM V ⟨h3, ?_, c2⟩ fun h1' H i1 i2 R => ?_
      · rw [e_X_post, s_isKind.1 hk, zbI_some, if_neg (show ¬ (1 : Int32) = 0 by decide), hX.1.1.1]
        rw [show tn w.1.1 = tn (wt w) from rfl, if_pos hl6, a1, zbV_some, b1, zbI_some]
        exact c1
      · obtain ⟨h4, d1, d2⟩ := m_think2 (X := X) H
        obtain ⟨h5, e1, e2⟩ := m_posD (X := X) (f2 := 0) R V hk hn 144 (-9) h4 none (Nat.le_refl _) d2
        refine ⟨h5, ?_, e2.mp R V, e2.pM⟩
        rw [e_M_post, i1, i2, m_inI (L := 0) (U := 5) (by decide) (by decide), zbI_some, if_pos (show (0 : Int) ≤ k.toInt ∧ k.toInt ≤ 5 by omega), if_neg (show ¬ (1 : Int32) = 0 by decide)]
        dsimp only
        rw [R.1.1.1]
        rw [if_neg hn6, if_pos (show (0 : Int32) ≤ 0 by decide)]
        rw [show zcf X m_M_think [.ref 123] (H.1, H.2) = _ from d1, zbV_some, ← pos_eq0]
        exact e1
    · have hn6 : tn (wt w) = 6 := by omega
      have hl6 : ¬ nI (tn (wt w)) < (6 : Int32) := by rw [hn6]; decide
      refine OK2.no (x := -3) 3 hX hM V (by decide) (by decide) (by decide) ?_ fun h1' H i1 i2 R => ⟨H, ?_, R, FM.rf⟩
      · rw [e_X_post, s_isKind.1 hk, zbI_some, if_neg (show ¬ (1 : Int32) = 0 by decide), hX.1.1.1]
        rw [show tn w.1.1 = tn (wt w) from rfl, if_neg hl6, zrx3]
      · rw [e_M_post, i1, i2, m_inI (L := 0) (U := 5) (by decide) (by decide), zbI_some, if_pos (show (0 : Int) ≤ k.toInt ∧ k.toInt ≤ 5 by omega), if_neg (show ¬ (1 : Int32) = 0 by decide)]
        dsimp only
        rw [R.1.1.1]
        rw [hn6, if_pos (show nI 6 = (6 : Int32) from rfl), if_neg (show ¬ (0 : Int32) ≤ -3 by decide), zrm3]
  · have hk' := hk
    rw [rg_of (by decide)] at hk'
    refine OK2.no (x := -2) 2 hX hM V (by decide) (by decide) (by decide) ?_ fun h1' H i1 i2 R => ⟨H, ?_, R, FM.rf⟩
    · rw [e_X_post, s_isKind.2 hk, zbI_some, if_pos (show (0 : Int32) = 0 from rfl), zrx2]
    · rw [e_M_post, i1, i2, m_inI (L := 0) (U := 5) (by decide) (by decide), zbI_some, if_neg (show ¬ ((0 : Int) ≤ k.toInt ∧ k.toInt ≤ 5) by omega), if_pos (show (0 : Int32) = 0 from rfl), if_neg (show ¬ (0 : Int32) ≤ -2 by decide), zrm2]
end z55
