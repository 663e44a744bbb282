/-! what can be taken back, in the model -/
section z45
variable {X : zX} {h h0 : zH} {w : zW} {t : zT}
theorem shl : ∀ i, i < 296 → 37 ≤ i → nI i - 37 = nI (i - 37) := by decide +kernel
theorem m_shF : ∀ (m i : Nat) (h : zH), i + m = 296 → 37 ≤ i → ∃ h1, zrn X 2 m_M_keepTurn 12 [some (.ref 123), some (.int (nI i))] [] h = zrn X 2 m_M_keepTurn 12 [some (.ref 123), some (.int (nI 296))] [] h1 ∧ (∀ j, i ≤ j + 37 → j + 37 < 296 → h1.1 136 j = h.1 136 (j + 37)) ∧ (∀ j, j + 37 < i → h1.1 136 j = h.1 136 j) ∧ ∀ b j, b ≠ 136 → h1.1 b j = h.1 b j := by
  intro m
  induction m with
  | zero =>
    intro i h hi h37
    refine ⟨h, by rw [show i = 296 by omega], fun j h1 h2 => by omega, fun _ _ => rfl, fun _ _ _ => rfl⟩
  | succ m ih =>
    intro i h hi h37
    obtain ⟨h1, a1, a2, a4, a3⟩ := ih (i + 1) (zup h.1 136 (i - 37) (h.1 136 i), h.2) (by omega) (by omega)
    refine ⟨h1, ?_, fun j h2 h3 => ?_, fun j h2 => ?_, fun b j hb => ?_⟩
    · rw [b_M_keepTurn_12, if_neg (show ¬ (296 : Int32) ≤ nI i from nI_ge (b := 296) (by omega) (by omega)), if_pos (zin_nI (by omega) (by decide)), shl i (by omega) h37, if_pos (zin_nI (by omega) (by decide)), nI_clamp (by omega), nI_clamp (by omega), nI_add1]
      exact a1
    · by_cases q : i = j + 37
      · rw [a4 j (by omega), ← q]
        dsimp only
        rw [show i - 37 = j by omega, zup_eq]
      · rw [a2 j (by omega) h3]
        dsimp only
        rw [zup_ns (by omega)]
    · rw [a4 j (by omega)]
      dsimp only
      rw [zup_ns (by omega)]
    · rw [a3 b j hb]
      exact zup_nc hb
theorem k37 : ∀ k, k < 8 → ∀ i, i < 37 → 37 * nI k + nI i = nI (37 * k + i) := by decide +kernel
theorem m_cpF {k : Nat} (hk : k < 8) : ∀ (m i : Nat) (h : zH), i + m = 37 → h.1 123 27 = nI k → ∃ h1, zrn X 2 m_M_keepTurn 61 [some (.ref 123), some (.int (nI i))] [] h = some (none, h1) ∧ (∀ j, i ≤ j → j < 37 → h1.1 136 (37 * k + j) = h.1 137 j) ∧ (∀ j, j < 37 * k + i → h1.1 136 j = h.1 136 j) ∧ h1.1 123 27 = nI (k + 1) ∧ ∀ b j, b ≠ 136 → ¬ (b = 123 ∧ j = 27) → h1.1 b j = h.1 b j := by
  intro m
  induction m with
  | zero =>
    intro i h hi hk2
    refine ⟨(zup h.1 123 27 (nI (k + 1)), h.2), ?_, fun j h1 h2 => by omega, fun j _ => by dsimp only; rw [zup_nc (by decide)], by dsimp only; rw [zup_eq], fun b j h1 h2 => ?_⟩
    · rw [b_M_keepTurn_61, if_pos (show (37 : Int32) ≤ nI i from nI_le (a := 37) (by omega) (by omega)), hk2, nI_add1]
    · dsimp only
      unfold zup
      rw [if_neg h2]
  | succ m ih =>
    intro i h hi hk2
    obtain ⟨h1, a1, a2, a3, a4, a5⟩ := ih (i + 1) (zup h.1 136 (37 * k + i) (h.1 137 i), h.2) (by omega) (by dsimp only; rw [zup_nc (by decide)]; exact hk2)
    refine ⟨h1, ?_, fun j h2 h3 => ?_, fun j h2 => ?_, a4, fun b j h2 h3 => ?_⟩
    · rw [b_M_keepTurn_61, if_neg (show ¬ (37 : Int32) ≤ nI i from nI_ge (b := 37) (by omega) (by omega)), hk2, k37 k hk i (by omega), if_pos (zin_nI (by omega) (by decide)), if_pos (zin_nI (by omega) (by decide)), nI_clamp (by omega), nI_clamp (by omega), nI_add1]
      exact a1
    · by_cases q : j = i
      · rw [a3 _ (by omega), q]
        dsimp only
        rw [zup_eq]
      · rw [a2 j (by omega) h3]
        dsimp only
        rw [zup_nc (by decide)]
    · rw [a3 j (by omega)]
      dsimp only
      rw [zup_ns (by omega)]
    · rw [a5 b j h2 h3]
      exact zup_nc h2
theorem m_tail {k : Nat} (hk : k < 8) (h27 : h.1 123 27 = nI k) : ∃ h1, (zbV (zcf X m_M_carryAll [.ref 123, .ref 137, .int 1] h) fun h1 => zrn X 2 m_M_keepTurn 61 [some (.ref 123), some (.int 0)] [] h1) = some (none, h1) ∧ (∀ j, j < 37 → h1.1 136 (37 * k + j) = lay h.1 j) ∧ (∀ j, j < 37 * k → h1.1 136 j = h.1 136 j) ∧ h1.1 123 27 = nI (k + 1) ∧ ∀ b j, b ≠ 136 → b ≠ 137 → ¬ (b = 123 ∧ (j = 27 ∨ j = 22 ∨ j = 23)) → h1.1 b j = h.1 b j := by
  obtain ⟨h1, a1, T⟩ := m_takeAll (X := X) (h := h) (q := 136) (by decide) zc_137
  obtain ⟨t1, t2, t3, t4, t5⟩ := T
  obtain ⟨h2, b1, b2, b3, b4, b5⟩ := m_cpF (X := X) hk 37 0 h1 rfl ((t5 123 27 (by decide) (by decide)).trans h27)
  refine ⟨h2, ?_, fun j hj => (b2 j (by omega) hj).trans (t4 j hj), fun j hj => (b3 j (by omega)).trans (t5 136 j (by decide) (fun z => absurd z.1 (by decide))), b4, fun b j h3 h4 h5 => (b5 b j h3 (fun z => h5 ⟨z.1, Or.inl z.2⟩)).trans (t5 b j h4 (fun z => h5 ⟨z.1, Or.inr z.2⟩))⟩
  rw [a1, zbV_some]
  exact b1
theorem IN.at {I J : Nat → Nat → Int32} {q o o' : Nat} {x : zN} (hn : tn x.1 ≤ 6) (R : IN I q o x) (e : ∀ j, j < 37 → J q (o' + j) = I q (o + j)) : IN J q o' x := by
  refine ⟨(e 0 (by decide)).trans R.1, (e 1 (by decide)).trans R.2.1, fun p hp => ?_⟩
  rw [e _ (by omega), e _ (by omega), e _ (by omega), e _ (by omega), e _ (by omega)]
  exact R.2.2 p hp
theorem m_keepTurn (R : MP h w) (V : WV w) : ∃ h', zcf X m_M_keepTurn [.ref 123] h = some (none, h') ∧ MP h' (kp w) ∧ FM pMa h h' := by
  have h8 := V.2.2.1
  have hk27 := R.2.2.1.1
  have fin : ∀ (hh h' : zH) (k : Nat), k < 8 → k + 1 = (if wk w < 8 then wk w + 1 else 8) → (∀ b j, b ≠ 136 → ¬ (b = 123 ∧ j = 27) → hh.1 b j = h.1 b j) → (∀ i, 1 ≤ i → i < k + 1 → IN hh.1 136 (37 * (k - i)) (ws w (i - 1))) → (∀ i, 1 ≤ i → i < k + 1 → NV (ws w (i - 1))) → (∀ j, j < 37 → h'.1 136 (37 * k + j) = lay hh.1 j) → (∀ j, j < 37 * k → h'.1 136 j = hh.1 136 j) → h'.1 123 27 = nI (k + 1) → (∀ b j, b ≠ 136 → b ≠ 137 → ¬ (b = 123 ∧ (j = 27 ∨ j = 22 ∨ j = 23)) → h'.1 b j = hh.1 b j) → MP h' (kp w) ∧ FM pMa h h' := by
    intro hh h' k hk ek e0 e1 eV c1 c2 c3 c4
    have e4 : ∀ b j, b ≠ 136 → b ≠ 137 → ¬ (b = 123 ∧ (j = 27 ∨ j = 22 ∨ j = 23)) → h'.1 b j = h.1 b j := fun b j z1 z2 z3 => (c4 b j z1 z2 z3).trans (e0 b j z1 fun z => z3 ⟨z.1, Or.inl z.2⟩)
    have s : sM h hh := ⟨e0 _ _ (by decide) (by decide), e0 _ _ (by decide) (by decide), fun b j h1 h2 => e0 b j (by omega) (by omega)⟩
    refine ⟨R.uP (by rw [← ek]; exact c3) (fun i hi => ?_) ⟨e4 _ _ (by decide) (by decide) (by decide), e4 _ _ (by decide) (by decide) (by decide), fun b j h1 h2 => e4 b j (by omega) (by omega) (by omega)⟩ fun b j h1 h2 h3 h4 => e4 b j h2 (fun z => h4 (by unfold pS; omega)) (fun z => ?_), fun b j hb => ?_⟩
    · rw [← ek] at hi ⊢
      by_cases h0 : i = 0
      · rw [if_pos h0, h0]
        exact in_lay (J := hh.1) V.1.1.1 (s.mr R.1.1) (s.2.1.trans R.1.2) fun j hj => by rw [show k + 1 - 1 - 0 = k by omega]; exact c1 j hj
      · rw [if_neg h0]
        exact IN.at (eV i (by omega) hi).1.1 (e1 i (by omega) hi) fun j hj => by
          rw [show k + 1 - 1 - i = k - i by omega]
          exact c2 _ (by omega)
    · rcases z with ⟨z1, z2 | z2⟩
      · exact h3 ⟨z1, z2⟩
      · exact h4 (by unfold pS; omega)
    · unfold pMa at hb
      exact e4 b j (by omega) (by omega) (by omega)
  rw [e_M_keepTurn, hk27]
  by_cases hk : wk w < 8
  · rw [if_neg (show ¬ nI (wk w) = (8 : Int32) from fun z => absurd ((nI_eq (b := 8) (by omega) (by decide)).mp z) (by omega))]
    obtain ⟨h', a1, a2, a3, a4, a5⟩ := m_tail (X := X) hk hk27
    exact ⟨h', a1, fin h h' (wk w) hk (by rw [if_pos hk]) (fun _ _ _ _ => rfl) (fun i h1 h2 => by
      have := R.2.2.1.2 (i - 1) (by omega)
      rw [show wk w - 1 - (i - 1) = wk w - i by omega] at this
      exact this) (fun i h1 h2 => V.2.2.2.1 _ (by omega)) a2 a3 a4 a5⟩
  · have e8 : wk w = 8 := by omega
    rw [e8, if_pos (by decide)]
    obtain ⟨hs, s1, s2, s3, s4⟩ := m_shF (X := X) 259 37 h rfl (by decide)
    have hh27 : (zup hs.1 123 27 (nI 7), hs.2).1 123 27 = nI 7 := by dsimp only; rw [zup_eq]
    obtain ⟨h', a1, a2, a3, a4, a5⟩ := m_tail (X := X) (k := 7) (by decide) hh27
    refine ⟨h', ?_, fin (zup hs.1 123 27 (nI 7), hs.2) h' 7 (by decide) (by rw [if_neg hk]) (fun b j h1 h2 => ?_) (fun i h1 h2 => ?_) (fun i h1 h2 => V.2.2.2.1 _ (by omega)) a2 a3 a4 a5⟩
    · rw [show zrn X 2 m_M_keepTurn 12 [some (.ref 123), some (.int 37)] [] h = _ from s1, b_M_keepTurn_12, if_pos (by decide), s4 123 27 (by decide), hk27, e8]
      exact a1
    · dsimp only
      unfold zup
      rw [if_neg h2]
      exact s4 b j h1
    · have v := V.2.2.2.1 (i - 1) (by omega)
      refine IN.at v.1.1 (R.2.2.1.2 (i - 1) (by omega)) fun j hj => ?_
      dsimp only
      rw [zup_nc (by decide), s2 _ (by omega) (by omega), e8, show 37 * (7 - i) + j + 37 = 37 * (8 - 1 - (i - 1)) + j by omega]
end z45
