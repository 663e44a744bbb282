/-! hill, the class -/
section z63
variable {X : zX} {h h0 : zH} {w : zW} {mx mm : zM} {as : List Value} {t : zT} {a : Nat} {N : Nat} {L : zA}
theorem dgN_v {c : Int32} (h : dgN c ≠ 0) : (c = 99 ∧ dgN c = 3) ∨ (c = 102 ∧ dgN c = 2) ∨ (c = 110 ∧ dgN c = 2) ∨ (c = 112 ∧ dgN c = 5) := by
  unfold dgN at h ⊢
  by_cases h1 : c = 99
  · exact Or.inl ⟨h1, by rw [if_pos h1]⟩
  · rw [if_neg h1] at h ⊢
    by_cases h2 : c = 102
    · exact Or.inr (Or.inl ⟨h2, by rw [if_pos h2]⟩)
    · rw [if_neg h2] at h ⊢
      by_cases h3 : c = 110
      · exact Or.inr (Or.inr (Or.inl ⟨h3, by rw [if_pos h3]⟩))
      · rw [if_neg h3] at h ⊢
        by_cases h4 : c = 112
        · exact Or.inr (Or.inr (Or.inr ⟨h4, by rw [if_pos h4]⟩))
        · rw [if_neg h4] at h
          exact absurd rfl h
theorem s_fr1 {t : zT} (H : isH a) (R : HR h a t) (hn : tn t ≤ 6) {c : Int32} : zcf X m_H_isFree [.ref a, .int c] h = some (some (.int (if who (tn t) (tC t) c = -9 then 1 else 0)), h) := s_isFree H R hn
theorem s_has (H : isH a) (R : HR h a t) (hn : tn t ≤ 6) {n : Nat} (hn2 : n < 2 ^ 31) : zcf X m_H_has [.ref a, .int (nI n)] h = some (some (.int (if n < tn t then 1 else 0)), h) := by
  by_cases q : n < tn t
  · rw [if_pos q, s_has1 H R hn q]
  · rw [if_neg q, s_has0 H R hn (not_rg hn2 (by omega) q)]
theorem s_cell {n : Nat} (hn2 : n < 2 ^ 31) : zcf X m_X_isCell [.int (nI n)] h = some (some (.int (if n < 36 then 1 else 0)), h) := by
  by_cases q : n < 36
  · rw [if_pos q, s_isCell.1 (rg_n q)]
  · rw [if_neg q, s_isCell.2 (not_rg hn2 (by decide) q)]
theorem s_way {n : Nat} (hn2 : n < 2 ^ 31) : zcf X m_X_isWay [.int (nI n)] h = some (some (.int (if n < 4 then 1 else 0)), h) := by
  by_cases q : n < 4
  · rw [if_pos q, s_isWay.1 (rg_n q)]
  · rw [if_neg q, s_isWay.2 (not_rg hn2 (by decide) q)]
theorem s_kind {n : Nat} (hn2 : n < 2 ^ 31) : zcf X m_X_isKind [.int (nI n)] h = some (some (.int (if n < 6 then 1 else 0)), h) := by
  by_cases q : n < 6
  · rw [if_pos q, s_isKind.1 (rg_n q)]
  · rw [if_neg q, s_isKind.2 (not_rg hn2 (by decide) q)]
theorem b10 {c : Prop} [Decidable c] {α : Type} {a b : α} : (if (if c then (1 : Int32) else 0) = 0 then a else b) = if c then b else a := by
  by_cases q : c
  · rw [if_pos q, if_pos q, if_neg (by decide)]
  · rw [if_neg q, if_neg q, if_pos rfl]
theorem s_cms {i : Nat} (T : TX h N L) (hN : N ≤ 96) (hg : gst N L i = true) {x : zN} (R : HR h 8 x.1) (hn : h.1 8 6 = nI x.2) (V : NV x) : ∃ h', zcf X m_T_comesTo [.ref 71, .ref 8, .int (nI i)] h = some (some (.int (if (cms N L x i).1 = true then 1 else 0)), h') ∧ HR h' 8 (cms N L x i).2.1 ∧ h'.1 8 6 = nI (cms N L x i).2.2 ∧ FM pXq h h' := by
  obtain ⟨g1, g2, g3, g4, g5⟩ := gst_of hg
  have h6 := V.1.1
  have el : ltr N L i = L i := ltr_in g5
  have b1 : ∀ n : Nat, (if n = 0 ∨ n = 1 then n else n) = n := fun n => ite_self _
  have big : ∀ q, q < dgN (ltr N L i) → dnN N L (i + 1 + q) < 10 := fun q hq => (isd_dn (g2 q hq)).2.2.2
  have i1 : isd (ltr N L (i + 1)) = true := g2 0 (by omega)
  have i2 : isd (ltr N L (i + 2)) = true := by
    rcases dgN_v g1 with z | z | z | z <;> exact g2 1 (by omega)
  have n1 := (isd_dn i1).2.2.2
  have n2 := (isd_dn i2).2.2.2
  have bad : cms N L x i = (false, x) → ∃ h', some (some (Value.int 0), h) = some (some (Value.int (if (cms N L x i).1 = true then 1 else 0)), h') ∧ HR h' 8 (cms N L x i).2.1 ∧ h'.1 8 6 = nI (cms N L x i).2.2 ∧ FM pXq h h' := fun e => by
    rw [e]
    exact ⟨h, rfl, R, hn, FM.rf⟩
  have good : ∀ (y : zN) (h1 : zH), cms N L x i = (true, y) → HR h1 8 y.1 → h1.1 8 6 = nI y.2 → FM pXq h h1 → ∃ h', some (some (Value.int 1), h1) = some (some (Value.int (if (cms N L x i).1 = true then 1 else 0)), h') ∧ HR h' 8 (cms N L x i).2.1 ∧ h'.1 8 6 = nI (cms N L x i).2.2 ∧ FM pXq h h' := fun y h1 e a b c => by
    rw [e]
    exact ⟨h1, rfl, a, b, c⟩
  have w0 : (0 : Int32) = 0 ∨ (0 : Int32) = 1 := Or.inl rfl
  have w1 : (1 : Int32) = 0 ∨ (1 : Int32) = 1 := Or.inr rfl
  rw [e_T_comesTo hH_8, nI_add1, s_dig T hN i1, zbI_some, s_lat T hN g5, zbI_some, ← el]
  rcases dgN_v g1 with ⟨c, d⟩ | ⟨c, d⟩ | ⟨c, d⟩ | ⟨c, d⟩
  · have i3 : isd (ltr N L (i + 3)) = true := g2 2 (by omega)
    have n3 := (isd_dn i3).2.2.2
    rw [c, if_pos (show (99 : Int32) = 99 from rfl), nI_a2, (show zcf X m_T_number [.ref 71, .int (nI (i + 2))] h = some (some (.int (nI (10 * dnN N L (i + 2) + dnN N L (i + 3)))), h) from s_num T hN i2 i3), zbI_some, e_T_changesCell hH_8, s_has hH_8 R h6 (by omega), zbI_some, b10, s_cell (by omega), zbI_some, b10, s_fr1 hH_8 R h6, zbI_some, b10]
    have ec : cms N L x i = if dnN N L (i + 1) < tn x.1 ∧ 10 * dnN N L (i + 2) + dnN N L (i + 3) < 36 ∧ who (tn x.1) (tC x.1) (nI (10 * dnN N L (i + 2) + dnN N L (i + 3))) = -9 then (true, (wC x.1 (dnN N L (i + 1)) (nI (10 * dnN N L (i + 2) + dnN N L (i + 3))), x.2)) else (false, x) := by
      unfold cms
      rw [c, if_pos (show (99 : Int32) = 99 from rfl)]
    by_cases q1 : dnN N L (i + 1) < tn x.1
    · rw [if_pos q1]
      by_cases q2 : 10 * dnN N L (i + 2) + dnN N L (i + 3) < 36
      · rw [if_pos q2]
        by_cases q3 : who (tn x.1) (tC x.1) (nI (10 * dnN N L (i + 2) + dnN N L (i + 3))) = -9
        · rw [if_pos q3, s_place hH_8 (by omega), zbV_some, zbI_some, if_pos w1]
          exact good _ _ (ec.trans (if_pos ⟨q1, q2, q3⟩)) (HR.uC R) (by dsimp only; rw [zup_nc (by decide)]; exact hn) (FM.up (by unfold pXq; decide))
        · rw [if_neg q3, zbI_some, if_pos w0]
          exact bad (ec.trans (if_neg (fun z => q3 z.2.2)))
      · rw [if_neg q2, zbI_some, if_pos w0]
        exact bad (ec.trans (if_neg (fun z => q2 z.2.1)))
    · rw [if_neg q1, zbI_some, if_pos w0]
      exact bad (ec.trans (if_neg (fun z => q1 z.1)))
  · rw [c, if_neg (show ¬ (102 : Int32) = 99 by decide), if_pos (show (102 : Int32) = 102 from rfl), nI_a2, s_dig T hN i2, zbI_some, e_T_facesSo hH_8, s_has hH_8 R h6 (by omega), zbI_some, b10, s_way (by omega), zbI_some, b10]
    have ec : cms N L x i = if dnN N L (i + 1) < tn x.1 ∧ dnN N L (i + 2) < 4 then (true, (wD x.1 (dnN N L (i + 1)) (nI (dnN N L (i + 2))), x.2)) else (false, x) := by
      unfold cms
      rw [c, if_neg (show ¬ (102 : Int32) = 99 by decide), if_pos (show (102 : Int32) = 102 from rfl)]
    by_cases q1 : dnN N L (i + 1) < tn x.1
    · rw [if_pos q1]
      by_cases q2 : dnN N L (i + 2) < 4
      · rw [if_pos q2, s_face hH_8 (by omega), zbV_some, zbI_some, if_pos w1]
        exact good _ _ (ec.trans (if_pos ⟨q1, q2⟩)) (HR.uD R) (by dsimp only; rw [zup_nc (by decide)]; exact hn) (FM.up (by unfold pXq; decide))
      · rw [if_neg q2, zbI_some, if_pos w0]
        exact bad (ec.trans (if_neg (fun z => q2 z.2)))
    · rw [if_neg q1, zbI_some, if_pos w0]
      exact bad (ec.trans (if_neg (fun z => q1 z.1)))
  · rw [c, if_neg (show ¬ (110 : Int32) = 99 by decide), if_neg (show ¬ (110 : Int32) = 102 by decide), if_neg (show ¬ (110 : Int32) = 112 by decide), (show zcf X m_T_number [.ref 71, .int (nI (i + 1))] h = some (some (.int (nI (10 * dnN N L (i + 1) + dnN N L (i + 2)))), h) from s_num T hN i1 i2), zbI_some]
    have ec : cms N L x i = if 1 ≤ 10 * dnN N L (i + 1) + dnN N L (i + 2) ∧ 10 * dnN N L (i + 1) + dnN N L (i + 2) ≤ 60 ∧ x.2 + (10 * dnN N L (i + 1) + dnN N L (i + 2)) ≤ 999 then (true, (nts x.1 (10 * dnN N L (i + 1) + dnN N L (i + 2)), x.2 + (10 * dnN N L (i + 1) + dnN N L (i + 2)))) else (false, x) := by
      unfold cms
      rw [c, if_neg (show ¬ (110 : Int32) = 99 by decide), if_neg (show ¬ (110 : Int32) = 102 by decide), if_neg (show ¬ (110 : Int32) = 112 by decide)]
    have hb : 10 * dnN N L (i + 1) + dnN N L (i + 2) < 100 := by omega
    generalize 10 * dnN N L (i + 1) + dnN N L (i + 2) = n at hb ec ⊢
    by_cases q1 : 1 ≤ n
    · rw [if_neg (show ¬ nI n < (1 : Int32) from nI_nlt (b := 1) (by omega) (by omega)), e_H_hasRoomFor hH_8, hn]
      by_cases q2 : n ≤ 60
      · have nx := V.2
        rw [if_neg (show ¬ (60 : Int32) < nI n from nI_nlt (a := 60) (by omega) (by omega))]
        by_cases q3 : x.2 + n ≤ 999
        · obtain ⟨h1, a1, a2, a3, a4⟩ := s_pass (X := X) hH_8 R V.1 (e := n) (by omega)
          rw [if_neg (show ¬ 999 < nI x.2 + nI n from fun z => absurd ((n999 x.2 (by omega) n (by omega)).1.mp z) (by omega)), zbI_some, if_neg (show ¬ (1 : Int32) = 0 by decide), a1, zbV_some]
          exact good _ _ (ec.trans (if_pos ⟨q1, q2, q3⟩)) a2 (by rw [a3, hn]; exact nI_add _ _) (a4.fm fun b j _ _ => by unfold pXq; omega)
        · rw [if_pos ((n999 x.2 (by omega) n (by omega)).1.mpr (by omega)), zbI_some, if_pos (show (0 : Int32) = 0 from rfl)]
          exact bad (ec.trans (if_neg (fun z => q3 z.2.2)))
      · rw [if_pos (show (60 : Int32) < nI n from nI_lt (a := 60) (by omega) (by omega)), zbI_some, if_pos (show (0 : Int32) = 0 from rfl)]
        exact bad (ec.trans (if_neg (fun z => q2 z.2.1)))
    · rw [if_pos (show nI n < (1 : Int32) from nI_lt (b := 1) (by omega) (by omega))]
      exact bad (ec.trans (if_neg (fun z => q1 z.1)))
  · have i3 : isd (ltr N L (i + 3)) = true := g2 2 (by omega)
    have i4 : isd (ltr N L (i + 4)) = true := g2 3 (by omega)
    have i5 : isd (ltr N L (i + 5)) = true := g2 4 (by omega)
    have n3 := (isd_dn i3).2.2.2
    have n4 := (isd_dn i4).2.2.2
    have n5 := (isd_dn i5).2.2.2
    have eR := R.1
    rw [c, if_neg (show ¬ (112 : Int32) = 99 by decide), if_neg (show ¬ (112 : Int32) = 102 by decide), if_pos (show (112 : Int32) = 112 from rfl), nI_a2, s_dig T hN i2, zbI_some, nI_a3, (show zcf X m_T_number [.ref 71, .int (nI (i + 3))] h = some (some (.int (nI (10 * dnN N L (i + 3) + dnN N L (i + 4)))), h) from s_num T hN i3 i4), zbI_some, nI_a5, s_dig T hN i5, zbI_some, e_T_joins hH_8, s_kind (by omega), zbI_some, b10, s_cell (by omega), zbI_some, b10, s_way (by omega), zbI_some, b10, s_fr1 hH_8 R h6, zbI_some, b10, eR]
    have ec : cms N L x i = if dnN N L (i + 1) < 6 ∧ 10 * dnN N L (i + 3) + dnN N L (i + 4) < 36 ∧ dnN N L (i + 5) < 4 ∧ tn x.1 < 6 ∧ who (tn x.1) (tC x.1) (nI (10 * dnN N L (i + 3) + dnN N L (i + 4))) = -9 then (true, (jn x.1 (nI (dnN N L (i + 1))) (nI (dnN N L (i + 2))) (nI (10 * dnN N L (i + 3) + dnN N L (i + 4))) (nI (dnN N L (i + 5))), x.2)) else (false, x) := by
      unfold cms
      rw [c, if_neg (show ¬ (112 : Int32) = 99 by decide), if_neg (show ¬ (112 : Int32) = 102 by decide), if_pos (show (112 : Int32) = 112 from rfl)]
    by_cases q1 : dnN N L (i + 1) < 6
    · rw [if_pos q1]
      by_cases q2 : 10 * dnN N L (i + 3) + dnN N L (i + 4) < 36
      · rw [if_pos q2]
        by_cases q3 : dnN N L (i + 5) < 4
        · rw [if_pos q3]
          by_cases q4 : tn x.1 < 6
          · rw [if_neg (show ¬ (6 : Int32) ≤ nI (tn x.1) from nI_ge (b := 6) q4 (by omega))]
            by_cases q5 : who (tn x.1) (tC x.1) (nI (10 * dnN N L (i + 3) + dnN N L (i + 4))) = -9
            · obtain ⟨h1, a1, a2, a3, a4⟩ := s_join (X := X) (k := nI (dnN N L (i + 1))) (f := nI (dnN N L (i + 2))) (c := nI (10 * dnN N L (i + 3) + dnN N L (i + 4))) (d := nI (dnN N L (i + 5))) hH_8 R q4
              rw [if_pos q5, a1, zbI_some, zbI_some, if_pos w1]
              exact good _ _ (ec.trans (if_pos ⟨q1, q2, q3, q4, q5⟩)) a2 (a3.trans hn) (a4.fm fun b j _ _ => by unfold pXq; omega)
            · rw [if_neg q5, zbI_some, if_pos w0]
              exact bad (ec.trans (if_neg (fun z => q5 z.2.2.2.2)))
          · rw [if_pos (show (6 : Int32) ≤ nI (tn x.1) from nI_le (a := 6) (by omega) (by omega)), zbI_some, if_pos w0]
            exact bad (ec.trans (if_neg (fun z => q4 z.2.2.2.1)))
        · rw [if_neg q3, zbI_some, if_pos w0]
          exact bad (ec.trans (if_neg (fun z => q3 z.2.2.1)))
      · rw [if_neg q2, zbI_some, if_pos w0]
        exact bad (ec.trans (if_neg (fun z => q2 z.2.1)))
    · rw [if_neg q1, zbI_some, if_pos w0]
      exact bad (ec.trans (if_neg (fun z => q1 z.1)))
theorem TX.fm (T : TX h N L) {h' : zH} (F : FM pXq h h') : TX h' N L := ⟨(F 71 1 (by unfold pXq; omega)).trans T.1, fun j hj => (F 72 j (by unfold pXq; omega)).trans (T.2 j hj)⟩
/-- behind the first letter nothing begins -/
theorem s_skip (T : TX h N L) (hN : N ≤ 96) {x1 : Int32} {c : Nat} (hc : c < 100) : ∀ (m j : Nat), j + m ≤ N → (∀ q, q < m → dgN (L (j + q)) = 0) → zrn X 7 m_X_hill 37 [some (.ref 1), some (.int x1), some (.int (nI c)), some (.int (nI j))] [] h = zrn X 7 m_X_hill 37 [some (.ref 1), some (.int x1), some (.int (nI c)), some (.int (nI (j + m)))] [] h := by
  intro m
  induction m with
  | zero => intro j _ _; rfl
  | succ m ih =>
    intro j hj hd
    have d0 : dgN (L j) = 0 := hd 0 (by omega)
    rw [b_X_hill_37, T.1, if_neg (nI_ge (by omega) (by omega)), if_neg (show ¬ nI c < 0 from nI_pos (by omega)), e_T_beginsStatement, s_lat T hN (by omega), zbI_some, s_dgB, zbI_some, d0, if_pos (show nI 0 ≤ (0 : Int32) by decide), zbI_some, if_pos (show (0 : Int32) = 0 from rfl), nI_add1, ih (j + 1) (by omega) (fun q hq => by have := hd (q + 1) (by omega); rw [show j + (q + 1) = j + 1 + q by omega] at this; exact this), show j + 1 + m = j + (m + 1) by omega]
/-- the end of hill -/
noncomputable def hlE (X : zX) (v : Int32) (h : zH) : Option (Option Value × zH) := (zbV (zcf X m_T_forget [.ref 71] h) fun h1 => (if v ≤ 0 then (some (some (.int v), h1)) else (zbV (zcf X m_H_become [.ref 2, .ref 8] h1) fun h2 => (zbV (zcf X m_P_forget [.ref 21] h2) fun h3 => (some (some (.int v), h3))))))
theorem s_hlB {x1 v : Int32} {j : Nat} (hv : v < 0) : zrn X 7 m_X_hill 37 [some (.ref 1), some (.int x1), some (.int v), some (.int (nI j))] [] h = hlE X v h := by
  rw [b_X_hill_37, if_pos hv]
  unfold hlE
  rw [ite_self]
theorem neg2000 : ∀ i, i < 97 → -2000 - nI i < 0 ∧ -1000 - nI i < 0 := by decide
theorem s_hlF (hN : N ≤ 96) {x1 : Int32} : ∀ (m i c : Nat) (x : zN) (h : zH), i < N → N ≤ i + m → 4 * c ≤ i → prs N L m i = -9 → TX h N L → HR h 8 x.1 → h.1 8 6 = nI x.2 → NV x → ∃ h', zrn X 7 m_X_hill 37 [some (.ref 1), some (.int x1), some (.int (nI c)), some (.int (nI i))] [] h = hlE X (exF N L m i c x).1 h' ∧ FM pXq h h' ∧ (¬ (exF N L m i c x).1 ≤ 0 → HR h' 8 (exF N L m i c x).2.1 ∧ h'.1 8 6 = nI (exF N L m i c x).2.2 ∧ NV (exF N L m i c x).2) := by
  intro m
  induction m with
  | zero => intro i c x h h1 h2; omega
  | succ m ih =>
    intro i c x h h1 h2 h4 hp T R hn V
    have hg : gst N L i = true := by
      by_cases g : gst N L i = true
      · exact g
      · rw [prs_s, if_neg g] at hp
        have : bpl N L i < 97 := by
          unfold bpl
          split
          · omega
          · have := (@fdF_le N L (dgN (ltr N L i)) (i + 1)).2.2 (by omega); omega
        exact absurd hp ((by decide : ∀ n, n < 97 → nI n ≠ -9) _ this)
    obtain ⟨g1, g2, g3, g4, g5⟩ := gst_of hg
    have el : ltr N L i = L i := ltr_in g5
    obtain ⟨h', a1, a2, a3, a4⟩ := s_cms (X := X) T hN hg R hn V
    have dle := @dgN_le (L i)
    have d2 : 2 ≤ dgN (ltr N L i) := by rcases dgN_v g1 with z | z | z | z <;> omega
    rw [b_X_hill_37, T.1, if_neg (nI_ge (by omega) (by omega)), if_neg (show ¬ nI c < 0 from nI_pos (by omega)), e_T_beginsStatement, s_lat T hN g5, zbI_some, s_dgB, zbI_some, if_neg (show ¬ nI (dgN (L i)) ≤ (0 : Int32) from nI_ge (b := dgN (L i)) (a := 0) (by rw [← el]; omega) (by omega)), zbI_some, if_neg (show ¬ (1 : Int32) = 0 by decide), a1, zbI_some, b10, nI_add1, nI_add1, exF_s]
    by_cases ok : (cms N L x i).1 = true
    · rw [if_pos ok, if_pos ok]
      have T' := T.fm a4
      have en : nxt N L i = i + 1 + (dgN (ltr N L i) + 1) := by unfold nxt; omega
      have sk := s_skip (X := X) (x1 := x1) (c := c + 1) T' hN (by omega) (dgN (ltr N L i) + 1) (i + 1) (by omega) (fun q hq => by
        by_cases e : q < dgN (ltr N L i)
        · have := isd_dg (g2 q e)
          rw [ltr_in (by omega)] at this
          exact this
        · have : q = dgN (ltr N L i) := by omega
          rw [this]
          rw [ltr_in g4] at g3
          rw [g3]
          rfl)
      rw [sk, ← en]
      by_cases l : nxt N L i < N
      · rw [if_pos l]
        rw [prs_s, if_pos hg, if_pos l] at hp
        obtain ⟨h2, b1, b2, b3⟩ := ih (nxt N L i) (c + 1) (cms N L x i).2 h' l (by omega) (by omega) hp T' a2 a3 (cms_V hg V)
        exact ⟨h2, b1, a4.tr b2, b3⟩
      · rw [if_neg l]
        refine ⟨h', ?_, a4, fun _ => ⟨a2, a3, cms_V hg V⟩⟩
        rw [b_X_hill_37, T'.1, if_pos (nI_le (by omega) (by omega))]
        rfl
    · rw [if_neg ok, if_neg ok]
      have ng := (neg2000 i (by omega)).1
      refine ⟨h', s_hlB ng, a4, fun z => absurd (Int32.le_of_lt ng) z⟩
end z63
