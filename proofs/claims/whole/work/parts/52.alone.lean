/-! safe, alone, most, bestStep: both sides -/
def safL (t : zT) (p f : Nat) : Bool := decide (lns (wD t p (nI f)) p = -9)
def safA (t : zT) (p f : Nat) : Bool := decide (ahd (wD t p (nI f)) p ≠ -9)
def aloG (t : zT) (p c : Nat) : Bool := decide (who (tn t) (tC t) (nI c) = -9 ∧ lns (wC t p (nI c)) p = -9 ∧ wat (wC t p (nI c)) (nI p) = 0)
def mosA (t : zT) (c : Nat) : Bool := decide (who (tn t) (tC t) (nI c) = -9)
def mosV (t : zT) (p c : Nat) : Int32 := pop (wat (wC t p (nI c)) (nI p))
/-- the cell of a step that can be taken -/
def stC (t : zT) (p : Nat) (s : Int32) : Int32 := if s = 4 then tC t p else (if who (tn t) (tC t) (bes (tC t p) s) = -9 then bes (tC t p) s else -1)
def besA (t : zT) (p s : Nat) : Bool := decide (stC t p (nI s) ≠ -1)
def besV (t : zT) (p s : Nat) : Int32 := pop (wat (wC t p (stC t p (nI s))) (nI p))
theorem stC_rg {t : zT} (V : tV t) {p : Nat} (hp : p < tn t) {s : Nat} (hs : s < 5) : stC t p (nI s) = -1 ∨ rg (stC t p (nI s)) 36 := by
  unfold stC
  by_cases h4 : nI s = 4
  · rw [if_pos h4]; exact Or.inr (V.2 p hp).2.2.1
  · rw [if_neg h4]
    have h5 : s < 4 := by
      by_cases e : s = 4
      · rw [e] at h4; exact absurd rfl h4
      · omega
    split
    · exact bes_ok V hp ⟨s, h5, rfl⟩
    · exact Or.inl rfl
section z52
variable {X : zX} {h h0 : zH} {w : zW} {mx mm : zM} {as : List Value} {t : zT} {a : Nat}
theorem s_cellOfStep (H : isH a) (R : HR h a t) (V : tV t) {p : Nat} (hp : p < tn t) {s : Nat} : zcf X m_H_cellOfStep [.ref a, .int (nI p), .int (nI s)] h = some (some (.int (stC t p (nI s))), h) := by
  rw [e_H_cellOfStep H, s_celOf H R V.1 hp, zbI_some, zbI_some, s_beside, zbI_some, s_isFree H R V.1, zbI_some]
  unfold stC
  by_cases h4 : nI s = 4
  · rw [if_pos h4, if_pos h4]
  · rw [if_neg h4, if_neg h4]
    by_cases f : who (tn t) (tC t) (bes (tC t p) (nI s)) = -9
    · rw [if_pos f, if_pos f, if_neg (show ¬ (1 : Int32) = 0 by decide)]
    · rw [if_neg f, if_neg f, if_pos (show (0 : Int32) = 0 from rfl)]
theorem m_stepFrom (R : MR h t) (V : tV t) {p : Nat} (hp : p < tn t) {s : Nat} (hs : s < 5) : zcf X m_M_stepFrom [.ref 123, .int (nI p), .int (nI s)] h = some (some (.int (if stC t p (nI s) = -1 then -9 else stC t p (nI s))), h) := by
  have h6 := V.1
  have hc := (V.2 p hp).2.2.1
  have c0 := rg_pos hc (by decide)
  have cn : ¬ tC t p < 0 := fun z => by
    rw [rg_of (by decide)] at hc
    exact absurd (lt0_iff.mp z) (by omega)
  have cm : ¬ tC t p = -1 := fun z => cn (by rw [z]; decide)
  rw [e_M_stepFrom, if_pos (zin_nI (by omega) (by decide)), nI_clamp (by omega), (R.2 p hp).2.2.1, if_pos (zin_nI (by omega) (by decide)), if_neg cn]
  unfold stC
  by_cases h4 : nI s = 4
  · rw [if_pos h4, if_pos h4, if_neg cm, if_pos (show 4 ≤ nI s by rw [h4]; decide)]
  · have h5 : s < 4 := by
      by_cases e : s = 4
      · rw [e] at h4; exact absurd rfl h4
      · omega
    rw [if_neg h4, if_neg h4, m_straight, zbI_some, str1 hc ⟨s, h5, rfl⟩]
    have bo := bes_ok V hp (w := nI s) ⟨s, h5, rfl⟩
    by_cases b : bes (tC t p) (nI s) = -1
    · rw [if_pos b, if_pos (show (-9 : Int32) < 0 by decide), b, ite_self, if_pos (show (-1 : Int32) = -1 from rfl)]
    · rw [if_neg b]
      have br : rg (bes (tC t p) (nI s)) 36 := by
        rcases bo with b' | b'
        · exact absurd b' b
        · exact b'
      have bn : ¬ bes (tC t p) (nI s) < 0 := fun z => by
        rw [rg_of (by decide)] at br
        exact absurd (lt0_iff.mp z) (by omega)
      rw [if_neg bn, if_neg (show ¬ 4 ≤ nI s from nI_ge (b := 4) h5 (by omega)), m_oneIn R h6, zbI_some]
      by_cases f : who (tn t) (tC t) (bes (tC t p) (nI s)) = -9
      · rw [if_pos ((who_neg (by omega)).mpr f), if_pos f, if_neg b]
      · rw [if_neg (fun z => f ((who_neg (by omega)).mp z)), if_neg f, if_pos (show (-1 : Int32) = -1 from rfl)]
theorem s_safF {p : Nat} {y f5 : Int32} (V : tV t) (hp : p < tn t) : ∀ (m f : Nat) (t' : zT) (h : zH) (b g : Int32), f + m = 4 → MD h0 t' h → tn t' = tn t → (∀ v, wD t' p v = wD t p v) → ∃ h', zrn X 3 m_X_safe 39 [some (.ref 1), some (.int (nI p)), some (.int y), some (.int f5), some (.int b), some (.int g), some (.int (nI f))] [] h = some (some (.int (if y = 0 then (sfU (safL t p) (safA t p) m f b g).1 else (sfU (safL t p) (safA t p) m f b g).2)), h') ∧ FM pXq h0 h' := by
  have h6 := V.1
  intro m
  induction m with
  | zero =>
    intro f t' h b g hf D _ _
    refine ⟨h, ?_, D.2.1⟩
    rw [b_X_safe_39, if_pos (show (4 : Int32) ≤ nI f from nI_le (a := 4) (by omega) (by omega)), zI_ite]
    rfl
  | succ m ih =>
    intro f t' h b g hf D hn hw
    have V1 : tV (wD t p (nI f)) := V.wD ⟨f, by omega, rfl⟩
    have D1 : MD h0 (wD t p (nI f)) (zup h.1 (8 + 4) p (nI f), h.2) := D.go (by rw [← hw]; exact HR.uD D.1) (FM.up (by unfold pXq; decide)) V1
    rw [b_X_safe_39, if_neg (show ¬ (4 : Int32) ≤ nI f from nI_ge (b := 4) (by omega) (by omega)), s_face hH_8 (by omega), zbV_some, s_inLens hH_8 D1.1 V1 hp, zbI_some, sfU_s, nI_add1]
    have k := fun b g => ih (f + 1) (wD t p (nI f)) (zup h.1 (8 + 4) p (nI f), h.2) b g (by omega) D1 rfl (fun v => wD_wD)
    by_cases l : lns (wD t p (nI f)) p = -9
    · have l' : safL t p f = true := by unfold safL; exact decide_eq_true l
      rw [if_pos l, s_bitOf (by omega), zbI_some, if_pos l', if_pos l']
      by_cases g9 : g = -9
      · rw [if_pos g9, if_pos g9, s_ahead hH_8 D1.1 V1 hp, zbI_some]
        by_cases al : ahd (wD t p (nI f)) p = -9
        · rw [if_pos al, if_neg (show ¬ safA t p f = true by unfold safA; simp [al])]
          exact k _ _
        · rw [if_neg al, if_pos (show safA t p f = true by unfold safA; simp [al])]
          exact k _ _
      · rw [if_neg g9, if_neg g9]
        exact k _ _
    · have l' : ¬ safL t p f = true := by unfold safL; simp [l]
      rw [if_neg l, if_neg l', if_neg l']
      exact k _ _
theorem m_safF {p : Nat} {y f5 own : Int32} (V : tV t) (hp : p < tn t) : ∀ (m : Nat) (t' : zT) (h : zH) (b g : Int32) (g8 : Option Value), m ≤ 4 → MR h t' → (∀ v, wD t' p v = wD t p v) → zrn X 4 m_M_safe 52 [some (.ref 123), some (.int (nI p)), some (.int y), some (.int f5), some (.int own), some (.int b), some (.int g), some (.int (nI m - 1)), g8] [] h = some (some (.int (if y = 0 then (sfD (safL t p) (safA t p) m b g).1 else (sfD (safL t p) (safA t p) m b g).2)), (zup h.1 127 p own, h.2)) := by
  have h6 := V.1
  intro m
  induction m with
  | zero =>
    intro t' h b g g8 _ R hw
    rw [b_M_safe_52, if_pos (show nI 0 - 1 < 0 by decide), if_pos (zin_nI (by omega) (by decide)), nI_clamp (by omega), zI_ite]
    rfl
  | succ m ih =>
    intro t' h b g g8 hm R hw
    have V1 : tV (wD t p (nI m)) := V.wD ⟨m, by omega, rfl⟩
    have R1 : MR (zup h.1 127 p (nI m), h.2) (wD t p (nI m)) := by rw [← hw]; exact MR.uD R
    have e1 : nI (m + 1) - 1 = nI m := by rw [nI_sub1 (by omega)]; rfl
    have e2 : nI m + (-1) = nI m - 1 := (Int32.sub_eq_add_neg _ _).symm
    have k := fun b g g8 => ih (wD t p (nI m)) (zup h.1 127 p (nI m), h.2) b g g8 (by omega) R1 (fun v => wD_wD)
    obtain ⟨n1, n2⟩ := neg9 h6 (lns_rg (wD t p (nI m)) p)
    obtain ⟨n3, n4⟩ := neg9 h6 (ahd_rg (wD t p (nI m)) p)
    rw [e1, b_M_safe_52, if_neg (nI_pos (by omega)), if_pos (zin_nI (by omega) (by decide)), nI_clamp (by omega), m_lensOf R1 V1 hp, zbI_some, sfD_s, e2]
    have fin : (zup (zup h.1 127 p (nI m)) 127 p own, h.2) = (zup h.1 127 p own, h.2) := by rw [zup_zup]
    have kk : ∀ b g g8, zrn X 4 m_M_safe 52 [some (.ref 123), some (.int (nI p)), some (.int y), some (.int f5), some (.int own), some (.int b), some (.int g), some (.int (nI m - 1)), g8] [] (zup h.1 127 p (nI m), h.2) = some (some (.int (if y = 0 then (sfD (safL t p) (safA t p) m b g).1 else (sfD (safL t p) (safA t p) m b g).2)), (zup h.1 127 p own, h.2)) := fun b g g8 => (k b g g8).trans (by dsimp only; rw [zup_zup])
    by_cases l : lns (wD t p (nI m)) p = -9
    · have l' : safL t p m = true := by unfold safL; exact decide_eq_true l
      rw [if_neg (show ¬ 0 ≤ lns (wD t p (nI m)) p from fun z => n2.mp z l), if_neg (show ¬ (1 : Int32) = 0 by decide), if_neg (show ¬ (1 : Int32) = 0 by decide), m_aheadOf R1 V1 hp, zbI_some, if_pos l', if_pos l']
      by_cases al : ahd (wD t p (nI m)) p = -9
      · rw [if_pos (n3.mpr al), if_neg (show ¬ safA t p m = true by unfold safA; simp [al])]
        exact kk _ _ _
      · rw [if_neg (fun z => al (n3.mp z)), if_pos (show safA t p m = true by unfold safA; simp [al])]
        exact kk _ _ _
    · have l' : ¬ safL t p m = true := by unfold safL; simp [l]
      rw [if_pos (n2.mpr l), if_pos (show (0 : Int32) = 0 from rfl), if_pos (show (0 : Int32) = 0 from rfl), if_neg l', if_neg l']
      exact kk _ _ _
theorem ok_safe (hX : XP h w) (hM : MP h w) (V : WV w) {x y : Int32} : OK2 X m_X_safe m_M_safe [.int x, .int y] h := by
  have h6 : tn (wt w) ≤ 6 := V.1.1.1
  refine OK2.wh (last := 1) (A := fun X x y v h1 => (zbV (zcf X m_H_become [.ref 8, .ref 2] h1) fun h3 => zrn X 3 m_X_safe 39 [some (.ref 1), some (.int x), some (.int y), some (.int v), some (.int 0), some (.int (-9)), some (.int 0)] [] h3)) (B := fun X x y v h4 => (if zin x 7 = true then zrn X 4 m_M_safe 52 [some (.ref 123), some (.int x), some (.int y), some (.int v), some (.int (h4.1 127 (Int32.toNatClampNeg x))), some (.int 0), some (.int (-9)), some (.int 3), none] [] h4 else none)) (by decide) hX hM V e_X_safe (fun _ => e_M_safe) fun p hp hx hy => ⟨if y = 0 then (sfU (safL (wt w) p) (safA (wt w) p) 4 0 0 (-9)).1 else (sfU (safL (wt w) p) (safA (wt w) p) 4 0 0 (-9)).2, ?_, fun H R => ?_⟩
  · obtain ⟨h1, a1, a2⟩ := s_mind (X := X) hX V
    rw [hx, a1, zbV_some]
    exact s_safF V.1.1 hp 4 0 (wt w) h1 0 (-9) rfl a2 rfl fun _ => rfl
  · refine ⟨H, ?_, R, FM.rf⟩
    rw [hx, if_pos (zin_nI (by omega) (by decide)), nI_clamp (by omega), sf_eq]
    refine (m_safF (t := wt w) (own := H.1 127 p) V.1.1 hp 4 (wt w) H 0 (-9) none (Nat.le_refl _) R.1.1 fun _ => rfl).trans ?_
    rw [zup_id rfl]
theorem s_aloF {p : Nat} {y f5 : Int32} (hX0 : HR h0 2 t) (V : tV t) (hp : p < tn t) : ∀ (m c : Nat) (t' : zT) (h : zH) (b g : Int32), c + m = 36 → MD h0 t' h → (∀ v, wC t' p v = wC t p v) → ∃ h', zrn X 4 m_X_alone 39 [some (.ref 1), some (.int (nI p)), some (.int y), some (.int f5), some (.int b), some (.int g), some (.int (nI c))] [] h = some (some (.int (if y = 0 then (alU (aloG t p) m c b g).1 else (alU (aloG t p) m c b g).2)), h') ∧ FM pXq h0 h' := by
  have h6 := V.1
  intro m
  induction m with
  | zero =>
    intro c t' h b g hc D _
    refine ⟨h, ?_, D.2.1⟩
    rw [b_X_alone_39, if_pos (show (36 : Int32) ≤ nI c from nI_le (a := 36) (by omega) (by omega)), zI_ite]
    rfl
  | succ m ih =>
    intro c t' h b g hc D hw
    have X2 : HR h 2 t := hX0.of fun b j h1 h2 => D.2.1 b j (by unfold pXq; omega)
    rw [b_X_alone_39, if_neg (show ¬ (36 : Int32) ≤ nI c from nI_ge (b := 36) (by omega) (by omega)), s_isFree hH_2 X2 h6, zbI_some, alU_s, nI_add1]
    by_cases fr : who (tn t) (tC t) (nI c) = -9
    · have V1 : tV (wC t p (nI c)) := V.wC ⟨c, by omega, rfl⟩
      have D1 : MD h0 (wC t p (nI c)) (zup h.1 (8 + 3) p (nI c), h.2) := D.go (by rw [← hw]; exact HR.uC D.1) (FM.up (by unfold pXq; decide)) V1
      have k := fun b g => ih (c + 1) (wC t p (nI c)) (zup h.1 (8 + 3) p (nI c), h.2) b g (by omega) D1 (fun v => wC_wC)
      rw [if_pos fr, if_neg (show ¬ (1 : Int32) = 0 by decide), s_place hH_8 (by omega), zbV_some, s_inLens hH_8 D1.1 V1 hp, zbI_some, s_watchers hH_8 D1.1 V1, zbI_some]
      by_cases l : lns (wC t p (nI c)) p = -9
      · rw [if_pos l]
        by_cases ww : wat (wC t p (nI c)) (nI p) = 0
        · have g1 : aloG t p c = true := by unfold aloG; exact decide_eq_true ⟨fr, l, ww⟩
          rw [if_pos ww, if_pos ww, if_pos g1, if_pos g1]
          exact k _ _
        · have g1 : ¬ aloG t p c = true := by unfold aloG; simp [ww]
          rw [if_neg ww, if_neg ww, if_neg g1, if_neg g1]
          exact k _ _
      · have g1 : ¬ aloG t p c = true := by unfold aloG; simp [l]
        rw [if_neg l, if_neg g1, if_neg g1]
        exact k _ _
    · have g1 : ¬ aloG t p c = true := by unfold aloG; simp [fr]
      rw [if_neg fr, if_pos (show (0 : Int32) = 0 from rfl), if_neg g1, if_neg g1]
      exact ih (c + 1) t' h b g (by omega) D hw
theorem m_aloF {p : Nat} {y f5 : Int32} (V : tV t) (hp : p < tn t) : ∀ (m : Nat) (t' : zT) (h : zH) (b g : Int32) (g8 : Option Value), m ≤ 36 → MR h t' → (∀ v, wC t' p v = wC t p v) → zrn X 5 m_M_alone 53 [some (.ref 123), some (.int (nI p)), some (.int y), some (.int f5), some (.int (tC t p)), some (.int b), some (.int g), some (.int (nI m - 1)), g8] [] h = some (some (.int (if y = 0 then (alD (aloG t p) m b g).1 else (alD (aloG t p) m b g).2)), (zup h.1 126 p (tC t p), h.2)) := by
  have h6 := V.1
  have own : wC t p (tC t p) = t := by
    show (_, _, _, zua (tC t) p (tC t p), _, _) = _
    have : zua (tC t) p (tC t p) = tC t := by
      funext q
      unfold zua
      by_cases e : q = p
      · rw [if_pos e, e]
      · rw [if_neg e]
    rw [this]
    rfl
  intro m
  induction m with
  | zero =>
    intro t' h b g g8 _ R hw
    rw [b_M_alone_53, if_pos (show nI 0 - 1 < 0 by decide), if_pos (zin_nI (by omega) (by decide)), nI_clamp (by omega), zI_ite]
    rfl
  | succ m ih =>
    intro t' h b g g8 hm R hw
    have V1 : tV (wC t p (nI m)) := V.wC ⟨m, by omega, rfl⟩
    have R0 : MR (zup h.1 126 p (tC t p), h.2) t := by
      have := MR.uC (p := p) (v := tC t p) R
      rw [hw, own] at this
      exact this
    have R1 : MR (zup (zup h.1 126 p (tC t p)) 126 p (nI m), h.2) (wC t p (nI m)) := MR.uC R0
    have e1 : nI (m + 1) - 1 = nI m := by rw [nI_sub1 (by omega)]; rfl
    have e2 : nI m + (-1) = nI m - 1 := (Int32.sub_eq_add_neg _ _).symm
    obtain ⟨n1, n2⟩ := neg9 h6 (lns_rg (wC t p (nI m)) p)
    obtain ⟨n3, n4⟩ := neg9 h6 (show who (tn t) (tC t) (nI m) = -9 ∨ ∃ q, q < tn t ∧ who (tn t) (tC t) (nI m) = nI q by
      rcases whoF_rg (tC t) (nI m) (tn t) 0 with z | ⟨q, _, z2, z3, _⟩
      · exact Or.inl z
      · exact Or.inr ⟨q, by omega, z3⟩)
    have kk : ∀ b g g8, zrn X 5 m_M_alone 53 [some (.ref 123), some (.int (nI p)), some (.int y), some (.int f5), some (.int (tC t p)), some (.int b), some (.int g), some (.int (nI m - 1)), g8] [] (zup (zup h.1 126 p (tC t p)) 126 p (nI m), h.2) = some (some (.int (if y = 0 then (alD (aloG t p) m b g).1 else (alD (aloG t p) m b g).2)), (zup h.1 126 p (tC t p), h.2)) := fun b g g8 => (ih (wC t p (nI m)) (zup (zup h.1 126 p (tC t p)) 126 p (nI m), h.2) b g g8 (by omega) R1 (fun v => wC_wC)).trans (by dsimp only; rw [zup_zup, zup_zup])
    rw [e1, b_M_alone_53, if_neg (nI_pos (by omega)), if_pos (zin_nI (by omega) (by decide)), nI_clamp (by omega), m_oneIn R0 h6, zbI_some, alD_s, e2]
    by_cases fr : who (tn t) (tC t) (nI m) = -9
    · rw [if_neg (fun z => n4.mp z fr), if_pos (zin_nI (by omega) (by decide)), m_watchersOf R1 V1, zbI_some]
      by_cases ww : wat (wC t p (nI m)) (nI p) = 0
      · rw [if_pos ww, m_lensOf R1 V1 hp, zbI_some]
        by_cases l : lns (wC t p (nI m)) p = -9
        · have g1 : aloG t p m = true := by unfold aloG; exact decide_eq_true ⟨fr, l, ww⟩
          rw [if_neg (show ¬ 0 ≤ lns (wC t p (nI m)) p from fun z => n2.mp z l), if_neg (show ¬ (1 : Int32) = 0 by decide), if_neg (show ¬ (1 : Int32) = 0 by decide), if_pos g1, if_pos g1]
          exact kk _ _ _
        · have g1 : ¬ aloG t p m = true := by unfold aloG; simp [l]
          rw [if_pos (n2.mpr l), if_pos (show (0 : Int32) = 0 from rfl), if_pos (show (0 : Int32) = 0 from rfl), if_neg g1, if_neg g1]
          exact kk _ _ _
      · have g1 : ¬ aloG t p m = true := by unfold aloG; simp [ww]
        rw [if_neg ww, if_neg g1, if_neg g1]
        exact kk _ _ _
    · have g1 : ¬ aloG t p m = true := by unfold aloG; simp [fr]
      rw [if_pos (n4.mpr fr), if_neg g1, if_neg g1, Int32.add_zero]
      exact (ih t (zup h.1 126 p (tC t p), h.2) b g g8 (by omega) R0 (fun _ => rfl)).trans (by dsimp only; rw [zup_zup])
theorem ok_alone (hX : XP h w) (hM : MP h w) (V : WV w) {x y : Int32} : OK2 X m_X_alone m_M_alone [.int x, .int y] h := by
  have h6 : tn (wt w) ≤ 6 := V.1.1.1
  refine OK2.wh (last := 1) (A := fun X x y v h1 => (zbV (zcf X m_H_become [.ref 8, .ref 2] h1) fun h3 => zrn X 4 m_X_alone 39 [some (.ref 1), some (.int x), some (.int y), some (.int v), some (.int 0), some (.int (-9)), some (.int 0)] [] h3)) (B := fun X x y v h4 => (if zin x 7 = true then zrn X 5 m_M_alone 53 [some (.ref 123), some (.int x), some (.int y), some (.int v), some (.int (h4.1 126 (Int32.toNatClampNeg x))), some (.int 0), some (.int (-9)), some (.int 35), none] [] h4 else none)) (by decide) hX hM V e_X_alone (fun _ => e_M_alone) fun p hp hx hy => ⟨if y = 0 then (alU (aloG (wt w) p) 36 0 0 (-9)).1 else (alU (aloG (wt w) p) 36 0 0 (-9)).2, ?_, fun H R => ?_⟩
  · obtain ⟨h1, a1, a2⟩ := s_mind (X := X) hX V
    rw [hx, a1, zbV_some]
    exact s_aloF hX.1.1 V.1.1 hp 36 0 (wt w) h1 0 (-9) rfl a2 fun _ => rfl
  · refine ⟨H, ?_, R, FM.rf⟩
    have R0 : MR H (wt w) := R.1.1
    have ew := (R0.2 p hp).2.2.1
    rw [hx, if_pos (zin_nI (by omega) (by decide)), nI_clamp (by omega), ← al_eq0, ew]
    refine (m_aloF (t := wt w) V.1.1 hp 36 (wt w) H 0 (-9) none (Nat.le_refl _) R0 fun _ => rfl).trans ?_
    rw [zup_id ew]
end z52
