/-! most, bestStep -/
section z53
variable {X : zX} {h h0 : zH} {w : zW} {mx mm : zM} {as : List Value} {t : zT} {a : Nat}
theorem wC_own {t : zT} {p : Nat} : wC t p (tC t p) = t := by
  show (_, _, _, zua (tC t) p (tC t p), _, _) = _
  have : zua (tC t) p (tC t p) = tC t := by
    funext q
    unfold zua
    by_cases e : q = p
    · rw [if_pos e, e]
    · rw [if_neg e]
  rw [this]
  rfl
theorem s_mosF {p : Nat} {y f5 : Int32} (hX0 : HR h0 2 t) (V : tV t) (hp : p < tn t) : ∀ (m c : Nat) (t' : zT) (h : zH) (b g : Int32) (g7 : Option Value), c + m = 36 → MD h0 t' h → (∀ v, wC t' p v = wC t p v) → ∃ h', zrn X 4 m_X_most 40 [some (.ref 1), some (.int (nI p)), some (.int y), some (.int f5), some (.int b), some (.int g), some (.int (nI c)), g7] [] h = some (some (.int (if y = 0 then (moF (mosA t) (mosV t p) m c b g).1 else (moF (mosA t) (mosV t p) m c b g).2)), h') ∧ FM pXq h0 h' := by
  have h6 := V.1
  intro m
  induction m with
  | zero =>
    intro c t' h b g g7 hc D _
    refine ⟨h, ?_, D.2.1⟩
    rw [b_X_most_40, if_pos (show (36 : Int32) ≤ nI c from nI_le (a := 36) (by omega) (by omega)), zI_ite]
    rfl
  | succ m ih =>
    intro c t' h b g g7 hc D hw
    have X2 : HR h 2 t := hX0.of fun b j h1 h2 => D.2.1 b j (by unfold pXq; omega)
    rw [b_X_most_40, if_neg (show ¬ (36 : Int32) ≤ nI c from nI_ge (b := 36) (by omega) (by omega)), s_isFree hH_2 X2 h6, zbI_some, moF_s, nI_add1]
    by_cases fr : who (tn t) (tC t) (nI c) = -9
    · have V1 : tV (wC t p (nI c)) := V.wC ⟨c, by omega, rfl⟩
      have D1 : MD h0 (wC t p (nI c)) (zup h.1 (8 + 3) p (nI c), h.2) := D.go (by rw [← hw]; exact HR.uC D.1) (FM.up (by unfold pXq; decide)) V1
      rw [if_pos fr, if_neg (show ¬ (1 : Int32) = 0 by decide), s_place hH_8 (by omega), zbV_some, s_watchers hH_8 D1.1 V1, zbI_some, s_pop (wat_rg V1.1 _), zbI_some, if_pos (show mosA t c = true by unfold mosA; exact decide_eq_true fr)]
      exact ih (c + 1) (wC t p (nI c)) (zup h.1 (8 + 3) p (nI c), h.2) _ _ _ (by omega) D1 (fun v => wC_wC)
    · rw [if_neg fr, if_pos (show (0 : Int32) = 0 from rfl), if_neg (show ¬ mosA t c = true by unfold mosA; simp [fr])]
      exact ih (c + 1) t' h b g _ (by omega) D hw
theorem m_mosF {p : Nat} {y f5 : Int32} (V : tV t) (hp : p < tn t) : ∀ (m c : Nat) (t' : zT) (h : zH) (b g : Int32) (g8 : Option Value), c + m = 36 → MR h t' → (∀ v, wC t' p v = wC t p v) → zrn X 5 m_M_most 52 [some (.ref 123), some (.int (nI p)), some (.int y), some (.int f5), some (.int (tC t p)), some (.int b), some (.int g), some (.int (nI c)), g8] [] h = some (some (.int (if y = 0 then (moF (mosA t) (mosV t p) m c b g).1 else (moF (mosA t) (mosV t p) m c b g).2)), (zup h.1 126 p (tC t p), h.2)) := by
  have h6 := V.1
  intro m
  induction m with
  | zero =>
    intro c t' h b g g8 hc R hw
    rw [b_M_most_52, if_pos (show (36 : Int32) ≤ nI c from nI_le (a := 36) (by omega) (by omega)), if_pos (zin_nI (by omega) (by decide)), nI_clamp (by omega), zI_ite]
    rfl
  | succ m ih =>
    intro c t' h b g g8 hc R hw
    have V1 : tV (wC t p (nI c)) := V.wC ⟨c, by omega, rfl⟩
    have R0 : MR (zup h.1 126 p (tC t p), h.2) t := by
      have := MR.uC (p := p) (v := tC t p) R
      rw [hw, wC_own] at this
      exact this
    have R1 : MR (zup (zup h.1 126 p (tC t p)) 126 p (nI c), h.2) (wC t p (nI c)) := MR.uC R0
    obtain ⟨n3, n4⟩ := neg9 h6 (show who (tn t) (tC t) (nI c) = -9 ∨ ∃ q, q < tn t ∧ who (tn t) (tC t) (nI c) = nI q by
      rcases whoF_rg (tC t) (nI c) (tn t) 0 with z | ⟨q, _, z2, z3, _⟩
      · exact Or.inl z
      · exact Or.inr ⟨q, by omega, z3⟩)
    rw [b_M_most_52, if_neg (show ¬ (36 : Int32) ≤ nI c from nI_ge (b := 36) (by omega) (by omega)), if_pos (zin_nI (by omega) (by decide)), nI_clamp (by omega), m_oneIn R0 h6, zbI_some, moF_s, nI_add1]
    by_cases fr : who (tn t) (tC t) (nI c) = -9
    · rw [if_neg (fun z => n4.mp z fr), if_pos (zin_nI (by omega) (by decide)), m_watchersOf R1 V1, zbI_some, m_pop (wat_rg V1.1 _), zbI_some, if_pos (show mosA t c = true by unfold mosA; exact decide_eq_true fr)]
      exact (ih (c + 1) (wC t p (nI c)) (zup (zup h.1 126 p (tC t p)) 126 p (nI c), h.2) _ _ _ (by omega) R1 (fun v => wC_wC)).trans (by dsimp only; rw [zup_zup, zup_zup]; rfl)
    · rw [if_pos (n4.mpr fr), if_neg (show ¬ mosA t c = true by unfold mosA; simp [fr])]
      exact (ih (c + 1) t (zup h.1 126 p (tC t p), h.2) b g g8 (by omega) R0 (fun _ => rfl)).trans (by dsimp only; rw [zup_zup])
theorem mos_eq (V : tV t) {p : Nat} : moF (mosA t) (mosV t p) 36 0 (-9) (-9) = moF (mosA t) (mosV t p) 36 0 (-9) (-1) := by
  obtain ⟨c, hc, fc⟩ := some_free V.1
  refine moF_eq (fun c hc => ?_) 36 0 (-9) ⟨c, Nat.zero_le _, by omega, by unfold mosA; exact decide_eq_true fc⟩
  obtain ⟨j, hj, ej⟩ := wat_rg (t := wC t p (nI c)) V.1 (nI p)
  unfold mosV
  rw [ej]
  exact (pop_b j hj).2
theorem ok_most (hX : XP h w) (hM : MP h w) (V : WV w) {x y : Int32} : OK2 X m_X_most m_M_most [.int x, .int y] h := by
  have h6 : tn (wt w) ≤ 6 := V.1.1.1
  refine OK2.wh (last := 1) (A := fun X x y v h1 => (zbV (zcf X m_H_become [.ref 8, .ref 2] h1) fun h3 => zrn X 4 m_X_most 40 [some (.ref 1), some (.int x), some (.int y), some (.int v), some (.int (-9)), some (.int (-9)), some (.int 0), none] [] h3)) (B := fun X x y v h4 => (if zin x 7 = true then zrn X 5 m_M_most 52 [some (.ref 123), some (.int x), some (.int y), some (.int v), some (.int (h4.1 126 (Int32.toNatClampNeg x))), some (.int (-9)), some (.int (-1)), some (.int 0), none] [] h4 else none)) (by decide) hX hM V e_X_most (fun _ => e_M_most) fun p hp hx hy => ⟨if y = 0 then (moF (mosA (wt w)) (mosV (wt w) p) 36 0 (-9) (-9)).1 else (moF (mosA (wt w)) (mosV (wt w) p) 36 0 (-9) (-9)).2, ?_, fun H R => ?_⟩
  · obtain ⟨h1, a1, a2⟩ := s_mind (X := X) hX V
    rw [hx, a1, zbV_some]
    exact s_mosF (t := wt w) hX.1.1 V.1.1 hp 36 0 (wt w) h1 (-9) (-9) none rfl a2 fun _ => rfl
  · refine ⟨H, ?_, R, FM.rf⟩
    have R0 : MR H (wt w) := R.1.1
    have ew := (R0.2 p hp).2.2.1
    rw [hx, if_pos (zin_nI (by omega) (by decide)), nI_clamp (by omega), mos_eq (t := wt w) V.1.1, ew]
    refine (m_mosF (t := wt w) V.1.1 hp 36 0 (wt w) H (-9) (-1) none rfl R0 fun _ => rfl).trans ?_
    rw [zup_id ew]
theorem s_besF {p : Nat} (hX0 : HR h0 2 t) (V : tV t) (hp : p < tn t) : ∀ (m s : Nat) (t' : zT) (h : zH) (b g : Int32) (g5 g6 : Option Value), s + m = 5 → MD h0 t' h → (∀ v, wC t' p v = wC t p v) → ∃ h', zrn X 4 m_X_bestStep 36 [some (.ref 1), some (.int (nI p)), some (.int b), some (.int g), some (.int (nI s)), g5, g6] [] h = some (some (.int (bsF (besA t p) (besV t p) m s b g)), h') ∧ FM pXq h0 h' := by
  have h6 := V.1
  intro m
  induction m with
  | zero =>
    intro s t' h b g g5 g6 hs D _
    refine ⟨h, ?_, D.2.1⟩
    rw [b_X_bestStep_36, if_pos (show (4 : Int32) < nI s from nI_lt (a := 4) (by omega) (by omega))]
    rfl
  | succ m ih =>
    intro s t' h b g g5 g6 hs D hw
    have X2 : HR h 2 t := hX0.of fun b j h1 h2 => D.2.1 b j (by unfold pXq; omega)
    rw [b_X_bestStep_36, if_neg (show ¬ (4 : Int32) < nI s from nI_nlt (a := 4) (by omega) (by omega)), s_cellOfStep hH_2 X2 V hp, zbI_some, bsF_s, nI_add1]
    by_cases fr : stC t p (nI s) = -1
    · rw [if_pos fr, if_neg (show ¬ besA t p s = true by unfold besA; simp [fr])]
      exact ih (s + 1) t' h b g _ _ (by omega) D hw
    · have cr : rg (stC t p (nI s)) 36 := by
        rcases stC_rg V hp (s := s) (by omega) with z | z
        · exact absurd z fr
        · exact z
      have V1 : tV (wC t p (stC t p (nI s))) := V.wC cr
      have D1 : MD h0 (wC t p (stC t p (nI s))) (zup h.1 (8 + 3) p (stC t p (nI s)), h.2) := D.go (by rw [← hw]; exact HR.uC D.1) (FM.up (by unfold pXq; decide)) V1
      rw [if_neg fr, s_place hH_8 (by omega), zbV_some, s_watchers hH_8 D1.1 V1, zbI_some, s_pop (wat_rg V1.1 _), zbI_some, if_pos (show besA t p s = true by unfold besA; exact decide_eq_true fr)]
      exact ih (s + 1) (wC t p (stC t p (nI s))) (zup h.1 (8 + 3) p (stC t p (nI s)), h.2) _ _ _ _ (by omega) D1 (fun v => wC_wC)
theorem m_besF {p : Nat} (V : tV t) (hp : p < tn t) (R : MR h t) : ∀ (m s : Nat) (b g : Int32) (g6 g7 : Option Value), s + m = 5 → zrn X 5 m_M_bestStep 36 [some (.ref 123), some (.int (nI p)), some (.int (tC t p)), some (.int b), some (.int g), some (.int (nI s)), g6, g7] [] h = some (some (.int (bsF (besA t p) (besV t p) m s b g)), h) := by
  have h6 := V.1
  intro m
  induction m with
  | zero =>
    intro s b g g6 g7 hs
    rw [b_M_bestStep_36, if_pos (show (5 : Int32) ≤ nI s from nI_le (a := 5) (by omega) (by omega))]
    rfl
  | succ m ih =>
    intro s b g g6 g7 hs
    rw [b_M_bestStep_36, if_neg (show ¬ (5 : Int32) ≤ nI s from nI_ge (b := 5) (by omega) (by omega)), m_stepFrom R V hp (by omega), zbI_some, bsF_s, nI_add1]
    by_cases fr : stC t p (nI s) = -1
    · rw [if_pos fr, if_pos (show (-9 : Int32) < 0 by decide), if_neg (show ¬ besA t p s = true by unfold besA; simp [fr])]
      exact ih (s + 1) b g _ _ (by omega)
    · have cr : rg (stC t p (nI s)) 36 := by
        rcases stC_rg V hp (s := s) (by omega) with z | z
        · exact absurd z fr
        · exact z
      have V1 : tV (wC t p (stC t p (nI s))) := V.wC cr
      have R1 : MR (zup h.1 126 p (stC t p (nI s)), h.2) (wC t p (stC t p (nI s))) := MR.uC R
      have cn : ¬ stC t p (nI s) < 0 := fun z => by
        rw [rg_of (by decide)] at cr
        exact absurd (lt0_iff.mp z) (by omega)
      rw [if_neg fr, if_neg cn, if_pos (zin_nI (by omega) (by decide)), nI_clamp (by omega), m_watchersOf R1 V1, zbI_some, m_pop (wat_rg V1.1 _), zbI_some, if_pos (zin_nI (by omega) (by decide)), if_pos (show besA t p s = true by unfold besA; exact decide_eq_true fr)]
      dsimp only
      rw [zup_zup, zup_id (R.2 p hp).2.2.1]
      exact ih (s + 1) _ _ _ _ (by omega)
theorem bes_eq (V : tV t) {p : Nat} (hp : p < tn t) (b b' : Int32) : bsF (besA t p) (besV t p) 5 0 b 7 = bsF (besA t p) (besV t p) 5 0 b' 7 := by
  have e4 : stC t p (nI 4) = tC t p := by unfold stC; rw [if_pos (show nI 4 = 4 from rfl)]
  refine bsF_eq ?_ ?_ b b' 4 0 7 rfl rfl
  · unfold besA
    rw [e4]
    refine decide_eq_true fun z => ?_
    have := (V.2 p hp).2.2.1
    rw [z] at this
    exact absurd this (by unfold rg; decide)
  · unfold besV
    rw [e4]
    obtain ⟨j, hj, ej⟩ := wat_rg (t := wC t p (tC t p)) V.1 (nI p)
    rw [ej]
    exact (pop_b j hj).1
theorem ok_bestStep (hX : XP h w) (hM : MP h w) (V : WV w) {x : Int32} : OK2 X m_X_bestStep m_M_bestStep [.int x] h := by
  have h6 : tn (wt w) ≤ 6 := V.1.1.1
  by_cases hx : rg x (tn (wt w))
  · obtain ⟨p, hp, rfl⟩ := hx
    obtain ⟨h1, a1, a2⟩ := s_mind (X := X) hX V
    obtain ⟨h2, b1, b2⟩ := s_besF (X := X) (t := wt w) hX.1.1 V.1.1 hp 5 0 (wt w) h1 4 7 none none rfl a2 fun _ => rfl
    refine OK2.qy (r := bsF (besA (wt w) p) (besV (wt w) p) 5 0 4 7) hX hM V ⟨h2, ?_, b2⟩ fun h1' H i1 i2 R => ⟨H, ?_, R, FM.rf⟩
    · rw [e_X_bestStep, s_has1 hH_2 hX.1.1 h6 hp, zbI_some, if_neg (show ¬ (1 : Int32) = 0 by decide), a1, zbV_some]
      exact b1
    · have R0 : MR H (wt w) := R.1.1
      have ew := (R0.2 p hp).2.2.1
      rw [e_M_bestStep, i1, i2, m_isOne1 (h := (H.1, H.2)) R.1.1 h6 hp, zbI_some, if_neg (show ¬ (1 : Int32) = 0 by decide), if_pos (zin_nI (by omega) (by decide)), nI_clamp (by omega), bes_eq (t := wt w) V.1.1 hp 4 (-9)]
      dsimp only
      rw [ew]
      exact m_besF (t := wt w) V.1.1 hp R0 5 0 (-9) 7 none none rfl
  · refine OK2.no (x := -1) 1 hX hM V (by decide) (by decide) (by decide) ?_ fun h1' H i1 i2 R => ⟨H, ?_, R, FM.rf⟩
    · rw [e_X_bestStep, s_has0 hH_2 hX.1.1 h6 hx, zbI_some, if_pos (show (0 : Int32) = 0 from rfl), zrx1]
    · rw [e_M_bestStep, i1, i2, m_isOne0 (h := (H.1, H.2)) R.1.1 h6 hx, zbI_some, if_pos (show (0 : Int32) = 0 from rfl), zrm1]
end z53
