/-! hills told in letters: what the letters say, and the class -/
def ltr (N : Nat) (L : zA) (i : Nat) : Int32 := if i < N then L i else -1
def dgN (c : Int32) : Nat := if c = 99 then 3 else (if c = 102 then 2 else (if c = 110 then 2 else (if c = 112 then 5 else 0)))
def isd (c : Int32) : Bool := decide (48 ≤ c.toInt ∧ c.toInt ≤ 57)
def fdF (N : Nat) (L : zA) : Nat → Nat → Nat
  | 0, j => j
  | k + 1, j => if isd (ltr N L j) = true then fdF N L k (j + 1) else j
theorem fdF_s {N : Nat} {L : zA} {k j : Nat} : fdF N L (k + 1) j = if isd (ltr N L j) = true then fdF N L k (j + 1) else j := rfl
/-- a good statement begins here -/
def gst (N : Nat) (L : zA) (i : Nat) : Bool := decide (dgN (ltr N L i) ≠ 0 ∧ fdF N L (dgN (ltr N L i)) (i + 1) = i + 1 + dgN (ltr N L i) ∧ ltr N L (i + 1 + dgN (ltr N L i)) = 59)
/-- where it goes wrong -/
def bpl (N : Nat) (L : zA) (i : Nat) : Nat := if dgN (ltr N L i) = 0 then i else fdF N L (dgN (ltr N L i)) (i + 1)
def nxt (N : Nat) (L : zA) (i : Nat) : Nat := i + dgN (ltr N L i) + 2
def prs (N : Nat) (L : zA) : Nat → Nat → Int32
  | 0, _ => -9
  | m + 1, i => if gst N L i = true then (if nxt N L i < N then prs N L m (nxt N L i) else -9) else nI (bpl N L i)
theorem prs_s {N : Nat} {L : zA} {m i : Nat} : prs N L (m + 1) i = if gst N L i = true then (if nxt N L i < N then prs N L m (nxt N L i) else -9) else nI (bpl N L i) := rfl
theorem isd_m1 : isd (-1) = false := by decide
theorem fdF_le {N : Nat} {L : zA} : ∀ (k j : Nat), j ≤ fdF N L k j ∧ fdF N L k j ≤ j + k ∧ (j ≤ N → fdF N L k j ≤ N) := by
  intro k
  induction k with
  | zero => intro j; exact ⟨Nat.le_refl _, Nat.le_refl _, fun h => h⟩
  | succ k ih =>
    intro j
    rw [fdF_s]
    by_cases h : isd (ltr N L j) = true
    · rw [if_pos h]
      obtain ⟨a, b, c⟩ := ih (j + 1)
      refine ⟨by omega, by omega, fun hj => c ?_⟩
      by_cases e : j < N
      · omega
      · unfold ltr at h
        rw [if_neg e, isd_m1] at h
        exact absurd h hFT
    · rw [if_neg h]
      exact ⟨Nat.le_refl _, by omega, fun h => h⟩
theorem fdF_add {N : Nat} {L : zA} {b : Nat} : ∀ (a j : Nat), fdF N L (a + b) j = if fdF N L a j = j + a then fdF N L b (j + a) else fdF N L a j := by
  intro a
  induction a with
  | zero => intro j; rw [Nat.zero_add, Nat.add_zero]; exact (if_pos rfl).symm
  | succ a ih =>
    intro j
    rw [show a + 1 + b = a + b + 1 by omega, fdF_s, fdF_s]
    by_cases h : isd (ltr N L j) = true
    · rw [if_pos h, if_pos h, ih, show j + 1 + a = j + (a + 1) by omega]
    · rw [if_neg h, if_neg h, if_neg (by omega)]
/-- all digits -/
theorem fdF_all {N : Nat} {L : zA} : ∀ (k j : Nat), fdF N L k j = j + k ↔ ∀ q, q < k → isd (ltr N L (j + q)) = true := by
  intro k
  induction k with
  | zero => intro j; exact ⟨fun _ q hq => absurd hq (Nat.not_lt_zero _), fun _ => rfl⟩
  | succ k ih =>
    intro j
    rw [fdF_s]
    by_cases h : isd (ltr N L j) = true
    · rw [if_pos h, show j + (k + 1) = j + 1 + k by omega, ih]
      refine ⟨fun z q hq => ?_, fun z q hq => ?_⟩
      · by_cases e : q = 0
        · rw [e]; exact h
        · have := z (q - 1) (by omega)
          rw [show j + 1 + (q - 1) = j + q by omega] at this
          exact this
      · have := z (q + 1) (by omega)
        rw [show j + 1 + q = j + (q + 1) by omega]
        exact this
    · rw [if_neg h]
      exact ⟨fun z => absurd z (by omega), fun z => absurd (z 0 (by omega)) h⟩
/-- the number of a digit -/
def dnN (N : Nat) (L : zA) (j : Nat) : Nat := (ltr N L j).toInt.toNat - 48
theorem isd_dn {N : Nat} {L : zA} {j : Nat} (h : isd (ltr N L j) = true) : j < N ∧ L j = ltr N L j ∧ L j - 48 = nI (dnN N L j) ∧ dnN N L j < 10 := by
  have hj : j < N := by
    by_cases e : j < N
    · exact e
    · unfold ltr at h
      rw [if_neg e, isd_m1] at h
      exact absurd h hFT
  have e : ltr N L j = L j := by unfold ltr; rw [if_pos hj]
  have hd : 48 ≤ (ltr N L j).toInt ∧ (ltr N L j).toInt ≤ 57 := of_decide_eq_true h
  refine ⟨hj, e.symm, ?_, by unfold dnN; omega⟩
  unfold dnN
  rw [e] at hd ⊢
  have hr : rg (L j) 58 := (rg_of (by decide)).mpr ⟨by omega, by omega⟩
  obtain ⟨q, hq, eq⟩ := hr
  rw [eq] at hd ⊢
  rw [nI_toInt (by omega)] at hd ⊢
  have : ∀ q, q < 58 → 48 ≤ q → nI q - 48 = nI (q - 48) := by decide
  rw [this q hq (by omega)]
  congr 1
theorem dgN_le {c : Int32} : dgN c ≤ 5 := by
  unfold dgN
  repeat' split
  all_goals decide
theorem isd_dg {c : Int32} (h : isd c = true) : dgN c = 0 := by
  have hd : 48 ≤ c.toInt ∧ c.toInt ≤ 57 := of_decide_eq_true h
  have hr : rg c 58 := (rg_of (by decide)).mpr ⟨by omega, by omega⟩
  obtain ⟨q, hq, eq⟩ := hr
  rw [eq]
  exact (by decide : ∀ q, q < 58 → dgN (nI q) = 0) q hq
theorem gst_of {N : Nat} {L : zA} {i : Nat} (h : gst N L i = true) : dgN (ltr N L i) ≠ 0 ∧ (∀ q, q < dgN (ltr N L i) → isd (ltr N L (i + 1 + q)) = true) ∧ ltr N L (i + 1 + dgN (ltr N L i)) = 59 ∧ i + 1 + dgN (ltr N L i) < N ∧ i < N := by
  have hd := of_decide_eq_true h
  have h59 : i + 1 + dgN (ltr N L i) < N := by
    by_cases e : i + 1 + dgN (ltr N L i) < N
    · exact e
    · have := hd.2.2
      unfold ltr at this
      rw [if_neg (by unfold ltr at e; exact e)] at this
      exact absurd this (by decide)
  exact ⟨hd.1, (fdF_all _ _).mp hd.2.1, hd.2.2, h59, by omega⟩
/-- what a statement does -/
def cms (N : Nat) (L : zA) (x : zN) (i : Nat) : Bool × zN :=
  if ltr N L i = 99 then (if dnN N L (i + 1) < tn x.1 ∧ 10 * dnN N L (i + 2) + dnN N L (i + 3) < 36 ∧ who (tn x.1) (tC x.1) (nI (10 * dnN N L (i + 2) + dnN N L (i + 3))) = -9 then (true, (wC x.1 (dnN N L (i + 1)) (nI (10 * dnN N L (i + 2) + dnN N L (i + 3))), x.2)) else (false, x))
  else (if ltr N L i = 102 then (if dnN N L (i + 1) < tn x.1 ∧ dnN N L (i + 2) < 4 then (true, (wD x.1 (dnN N L (i + 1)) (nI (dnN N L (i + 2))), x.2)) else (false, x))
  else (if ltr N L i = 112 then (if dnN N L (i + 1) < 6 ∧ 10 * dnN N L (i + 3) + dnN N L (i + 4) < 36 ∧ dnN N L (i + 5) < 4 ∧ tn x.1 < 6 ∧ who (tn x.1) (tC x.1) (nI (10 * dnN N L (i + 3) + dnN N L (i + 4))) = -9 then (true, (jn x.1 (nI (dnN N L (i + 1))) (nI (dnN N L (i + 2))) (nI (10 * dnN N L (i + 3) + dnN N L (i + 4))) (nI (dnN N L (i + 5))), x.2)) else (false, x))
  else (if 1 ≤ 10 * dnN N L (i + 1) + dnN N L (i + 2) ∧ 10 * dnN N L (i + 1) + dnN N L (i + 2) ≤ 60 ∧ x.2 + (10 * dnN N L (i + 1) + dnN N L (i + 2)) ≤ 999 then (true, (nts x.1 (10 * dnN N L (i + 1) + dnN N L (i + 2)), x.2 + (10 * dnN N L (i + 1) + dnN N L (i + 2)))) else (false, x))))
/-- all statements in their order: the answer, and what comes of it -/
def exF (N : Nat) (L : zA) : Nat → Nat → Nat → zN → Int32 × zN
  | 0, _, c, x => (nI c, x)
  | m + 1, i, c, x => if (cms N L x i).1 = true then (if nxt N L i < N then exF N L m (nxt N L i) (c + 1) (cms N L x i).2 else (nI (c + 1), (cms N L x i).2)) else (-2000 - nI i, x)
theorem exF_s {N : Nat} {L : zA} {m i c : Nat} {x : zN} : exF N L (m + 1) i c x = if (cms N L x i).1 = true then (if nxt N L i < N then exF N L m (nxt N L i) (c + 1) (cms N L x i).2 else (nI (c + 1), (cms N L x i).2)) else (-2000 - nI i, x) := rfl
section z62
variable {X : zX} {h h0 : zH} {w : zW} {mx mm : zM} {as : List Value} {t : zT} {a : Nat} {N : Nat} {L : zA}
theorem cms_V (hg : gst N L a = true) {x : zN} (V : NV x) : NV (cms N L x a).2 := by
  obtain ⟨g1, g2, -⟩ := gst_of hg
  have dn : ∀ q, q < dgN (ltr N L a) → dnN N L (a + 1 + q) < 10 := fun q hq => (isd_dn (g2 q hq)).2.2.2
  unfold cms
  split
  · split
    · rename_i h
      exact ⟨V.1.wC ⟨_, h.2.1, rfl⟩, V.2⟩
    · exact V
  · split
    · split
      · rename_i h
        exact ⟨V.1.wD ⟨_, h.2, rfl⟩, V.2⟩
      · exact V
    · split
      · rename_i e
        have d5 : dgN (ltr N L a) = 5 := by rw [e]; rfl
        split
        · rename_i h
          exact ⟨jn_V V.1 h.2.2.2.1 ⟨_, h.1, rfl⟩ ⟨_, dn 1 (by omega), rfl⟩ ⟨_, h.2.1, rfl⟩ ⟨_, h.2.2.1, rfl⟩, V.2⟩
        · exact V
      · split
        · rename_i h
          exact ⟨(nts_V _ _ V.1).1, h.2.2⟩
        · exact V
/-- the letters are held -/
def TX (h : zH) (N : Nat) (L : zA) : Prop := h.1 71 1 = nI N ∧ ∀ j, j < N → h.1 72 j = L j
theorem s_lat (T : TX h N L) (hN : N ≤ 96) {j : Nat} (hj : j < N) : zcf X m_X_at [.ref 72, .int (nI j)] h = some (some (.int (L j)), h) := by
  rw [s_at zc_72 (by decide) (show j < 96 by omega) (by decide), T.2 j hj]
theorem s_dgB {c : Int32} : zcf X m_T_digitsBehind [.int c] h = some (some (.int (nI (dgN c))), h) := by
  rw [e_T_digitsBehind]
  unfold dgN
  by_cases h1 : c = 99
  · rw [if_pos h1, if_pos h1]; rfl
  · rw [if_neg h1, if_neg h1]
    by_cases h2 : c = 102
    · rw [if_pos h2, if_pos h2]; rfl
    · rw [if_neg h2, if_neg h2]
      by_cases h3 : c = 110
      · rw [if_pos h3, if_pos h3]; rfl
      · rw [if_neg h3, if_neg h3]
        by_cases h4 : c = 112
        · rw [if_pos h4, if_pos h4]; rfl
        · rw [if_neg h4, if_neg h4]; rfl
theorem isd_iff {c : Int32} : isd c = true ↔ ¬ c < 48 ∧ c ≤ 57 := by
  unfold isd
  rw [decide_eq_true_iff, Int32.lt_iff_toInt_lt, Int32.le_iff_toInt_le]
  have e1 : (48 : Int32).toInt = 48 := by decide
  have e2 : (57 : Int32).toInt = 57 := by decide
  omega
theorem ltr_in {i : Nat} (h : i < N) : ltr N L i = L i := by unfold ltr; rw [if_pos h]
theorem ltr_out {i : Nat} (h : ¬ i < N) : ltr N L i = -1 := by unfold ltr; rw [if_neg h]
theorem s_wpD (T : TX h N L) (hN : N ≤ 96) : ∀ (d j : Nat) (g : Option Value), j ≤ N → d < 6 → (fdF N L d j = j + d → ∃ g', zrn X 1 m_T_wrongPlace 6 [some (.ref 71), some (.int 0), some (.int (nI d)), some (.int (nI j)), g] [] h = zrn X 1 m_T_wrongPlace 6 [some (.ref 71), some (.int 0), some (.int 0), some (.int (nI (j + d))), g'] [] h) ∧ (fdF N L d j ≠ j + d → zrn X 1 m_T_wrongPlace 6 [some (.ref 71), some (.int 0), some (.int (nI d)), some (.int (nI j)), g] [] h = some (some (.int (nI (fdF N L d j))), h)) := by
  intro d
  induction d with
  | zero => intro j g _ _; exact ⟨fun _ => ⟨g, rfl⟩, fun z => absurd rfl z⟩
  | succ d ih =>
    intro j g hj hd
    rw [fdF_s, b_T_wrongPlace_6, T.1]
    by_cases hjN : j < N
    · rw [if_neg (nI_ge (by omega) (by omega)), s_lat T hN hjN, zbI_some, if_pos (show (0 : Int32) = 0 from rfl), if_neg (show ¬ nI (d + 1) ≤ (0 : Int32) from nI_ge (b := d + 1) (a := 0) (by omega) (by omega)), ltr_in hjN, nI_add1]
      by_cases hi : isd (L j) = true
      · obtain ⟨i1, i2⟩ := isd_iff.mp hi
        have e : nI (d + 1) + (-1) = nI d := by rw [← nI_add1, Int32.add_assoc, show (1 : Int32) + (-1) = 0 from rfl, Int32.add_zero]
        rw [if_neg i1, if_pos i2, if_pos hi, e, show j + (d + 1) = j + 1 + d by omega]
        exact ih (j + 1) _ (by omega) (by omega)
      · rw [if_neg hi]
        refine ⟨fun z => absurd z (by omega), fun _ => ?_⟩
        by_cases i1 : L j < 48
        · rw [if_pos i1]
        · rw [if_neg i1, if_neg (fun i2 => hi (isd_iff.mpr ⟨i1, i2⟩))]
    · rw [if_pos (nI_le (by omega) (by omega)), if_pos (show (0 : Int32) = 0 from rfl), ltr_out hjN, if_neg (show ¬ isd (-1) = true by decide)]
      exact ⟨fun z => absurd z (by omega), fun _ => by rw [show N = j by omega]⟩
theorem s_wp (T : TX h N L) (hN : N ≤ 96) : ∀ (m i : Nat) (x2 : Int32) (g : Option Value), i < N → N ≤ i + m → zrn X 1 m_T_wrongPlace 6 [some (.ref 71), some (.int 1), some (.int x2), some (.int (nI i)), g] [] h = some (some (.int (prs N L m i)), h) := by
  intro m
  induction m with
  | zero => intro i x2 g h1 h2; omega
  | succ m ih =>
    intro i x2 g h1 h2
    have el : ltr N L i = L i := ltr_in h1
    rw [b_T_wrongPlace_6, T.1, if_neg (nI_ge (by omega) (by omega)), s_lat T hN h1, zbI_some, if_neg (show ¬ (1 : Int32) = 0 by decide), s_dgB, zbI_some, nI_add1, prs_s]
    have hd := @dgN_le (L i)
    by_cases d0 : dgN (L i) = 0
    · have ng : ¬ gst N L i = true := fun z => (gst_of z).1 (by rw [el]; exact d0)
      rw [d0, if_pos (show nI 0 = 0 from rfl), if_neg ng]
      unfold bpl
      rw [el, if_pos d0]
    · have dn0 : ¬ nI (dgN (L i)) = 0 := fun z => d0 ((nI_eq (b := 0) (by omega) (by decide)).mp z)
      rw [if_neg dn0]
      obtain ⟨a1, a2⟩ := s_wpD (X := X) T hN (dgN (L i)) (i + 1) (some (.int (L i))) (by omega) (by omega)
      have eb : bpl N L i = fdF N L (dgN (L i)) (i + 1) := by unfold bpl; rw [el, if_neg d0]
      by_cases f : fdF N L (dgN (L i)) (i + 1) = i + 1 + dgN (L i)
      · obtain ⟨g', a3⟩ := a1 f
        rw [a3, b_T_wrongPlace_6, T.1]
        have fle := (@fdF_le N L (dgN (L i)) (i + 1)).2.2 (by omega)
        by_cases eN : i + 1 + dgN (L i) < N
        · rw [if_neg (nI_ge (by omega) (by omega)), s_lat T hN eN, zbI_some, if_pos (show (0 : Int32) = 0 from rfl), if_pos (show (0 : Int32) ≤ 0 by decide), nI_add1]
          by_cases c59 : L (i + 1 + dgN (L i)) = 59
          · have gg : gst N L i = true := by unfold gst; rw [el]; exact decide_eq_true ⟨d0, f, by rw [ltr_in eN]; exact c59⟩
            have en : nxt N L i = i + 1 + dgN (L i) + 1 := by unfold nxt; rw [el]; omega
            rw [if_pos c59, if_pos gg, en]
            by_cases l : i + 1 + dgN (L i) + 1 < N
            · rw [if_pos l]
              exact ih _ _ _ l (by omega)
            · rw [if_neg l, b_T_wrongPlace_6, T.1, if_pos (nI_le (by omega) (by omega)), if_neg (show ¬ (1 : Int32) = 0 by decide), if_neg (show ¬ nI N ≤ (0 : Int32) from nI_ge (b := N) (a := 0) (by omega) (by omega))]
          · have ng : ¬ gst N L i = true := fun z => c59 (by have := (gst_of z).2.2.1; rw [el, ltr_in eN] at this; exact this)
            rw [if_neg c59, if_neg ng, eb, f]
        · have ng : ¬ gst N L i = true := fun z => eN (by have := (gst_of z).2.2.2.1; rw [el] at this; exact this)
          rw [if_pos (nI_le (by omega) (by omega)), if_pos (show (0 : Int32) = 0 from rfl), if_neg ng, eb, f, show i + 1 + dgN (L i) = N by omega]
      · have ng : ¬ gst N L i = true := fun z => f (by have := (of_decide_eq_true z).2.1; rw [el] at this; exact this)
        rw [a2 f, if_neg ng, eb]
theorem s_wrongPlace (T : TX h N L) (hN : N ≤ 96) : zcf X m_T_wrongPlace [.ref 71] h = some (some (.int (prs N L 97 0)), h) := by
  rw [e_T_wrongPlace]
  by_cases h0 : 0 < N
  · exact s_wp T hN 97 0 0 none h0 (by omega)
  · have e0 : N = 0 := by omega
    subst e0
    rw [b_T_wrongPlace_6, T.1, if_pos (show nI 0 ≤ (0 : Int32) by decide), if_neg (show ¬ (1 : Int32) = 0 by decide), if_pos (show nI 0 ≤ (0 : Int32) by decide)]
    rfl
theorem s_dig (T : TX h N L) (hN : N ≤ 96) {j : Nat} (hj : isd (ltr N L j) = true) : zcf X m_T_digit [.ref 71, .int (nI j)] h = some (some (.int (nI (dnN N L j))), h) := by
  obtain ⟨a, b, c, d⟩ := isd_dn hj
  rw [e_T_digit, s_lat T hN a, zbI_some, c]
theorem n10 : ∀ a, a < 10 → ∀ b, b < 10 → 10 * nI a + nI b = nI (10 * a + b) := by decide +kernel
theorem s_num (T : TX h N L) (hN : N ≤ 96) {j : Nat} (hj : isd (ltr N L j) = true) (hj1 : isd (ltr N L (j + 1)) = true) : zcf X m_T_number [.ref 71, .int (nI j)] h = some (some (.int (nI (10 * dnN N L j + dnN N L (j + 1)))), h) := by
  rw [e_T_number, s_dig T hN hj, zbI_some, nI_add1, s_dig T hN hj1, zbI_some, n10 _ (isd_dn hj).2.2.2 _ (isd_dn hj1).2.2.2]
theorem nI_a2 (i : Nat) : nI i + 2 = nI (i + 2) := nI_add i 2
theorem nI_a3 (i : Nat) : nI i + 3 = nI (i + 3) := nI_add i 3
theorem nI_a5 (i : Nat) : nI i + 5 = nI (i + 5) := nI_add i 5
theorem rg_n {n m : Nat} (h : n < m) : rg (nI n) m := ⟨n, h, rfl⟩
theorem not_rg {n m : Nat} (hn : n < 2 ^ 31) (hm : m ≤ 2 ^ 31) (h : ¬ n < m) : ¬ rg (nI n) m := by
  rintro ⟨j, hj, e⟩
  have := (nI_eq (a := n) (b := j) hn (by omega)).mp e
  omega
end z62
