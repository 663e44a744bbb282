/-! what can be taken back, in the model -/
section z45
variable {X : zX} {h h0 : zH} {w : zW} {t : zT}
theorem shl : ∀ i, i < 296 → 37 ≤ i → nI i - 37 = nI (i - 37) := by decide +kernel
theorem m_shF : ∀ (m i : Nat) (h : zH), i + m = 296 → 37 ≤ i → ∃ h1, zrn X 2 m_M_keepTurn 12 [some (.ref 123), some (.int (nI i))] [] h = zrn X 2 m_M_keepTurn 12 [some (.ref 123), some (.int (nI 296))] [] h1 ∧ (∀ j, i ≤ j + 37 → j + 37 < 296 → h1.1 136 j = h.1 136 (j + 37)) ∧ (∀ j, j + 37 < i → h1.1 136 j = h.1 136 j) ∧ ∀ b j, b ≠ 136 → h1.1 b j = h.1 b j := by
  intro m
  induction m with
  | zero =>
    intro i h hi h37
    refine ⟨h, by rw [show i = 296 by omega], fun j h1 h2 => by omega, fun _ _ => rfl, fun _ _ _ => rfl⟩
  | succ m ih =>
    intro i h hi h37
    obtain ⟨h1, a1, a2, a4, a3⟩ := ih (i + 1) (zup h.1 136 (i - 37) (h.1 136 i), h.2) (by omega) (by omega)
    refine ⟨h1, ?_, fun j h2 h3 => ?_, fun j h2 => ?_, fun b j hb => ?_⟩
    · rw [b_M_keepTurn_12, if_neg (show ¬ (296 : Int32) ≤ nI i from nI_ge (b := 296) (by omega) (by omega)), if_pos (zin_nI (by omega) (by decide)), shl i (by omega) h37, if_pos (zin_nI (by omega) (by decide)), nI_clamp (by omega), nI_clamp (by omega), nI_add1]
      exact a1
    · by_cases q : i = j + 37
      · rw [a4 j (by omega), ← q]
        dsimp only
        rw [show i - 37 = j by omega, zup_eq]
      · rw [a2 j (by omega) h3]
        dsimp only
        rw [zup_ns (by omega)]
    · rw [a4 j (by omega)]
      dsimp only
      rw [zup_ns (by omega)]
    · rw [a3 b j hb]
      exact zup_nc hb
theorem k37 : ∀ k, k < 8 → ∀ i, i < 37 → 37 * nI k + nI i = nI (37 * k + i) := by decide +kernel
theorem m_cpF {k : Nat} (hk : k < 8) : ∀ (m i : Nat) (h : zH), i + m = 37 → h.1 123 27 = nI k → ∃ h1, zrn X 2 m_M_keepTurn 61 [some (.ref 123), some (.int (nI i))] [] h = some (none, h1) ∧ (∀ j, i ≤ j → j < 37 → h1.1 136 (37 * k + j) = h.1 137 j) ∧ (∀ j, j < 37 * k + i → h1.1 136 j = h.1 136 j) ∧ h1.1 123 27 = nI (k + 1) ∧ ∀ b j, b ≠ 136 → ¬ (b = 123 ∧ j = 27) → h1.1 b j = h.1 b j := by
  intro m
  induction m with
  | zero =>
    intro i h hi hk2
    refine ⟨(zup h.1 123 27 (nI (k + 1)), h.2), ?_, fun j h1 h2 => by omega, fun j _ => by dsimp only; rw [zup_nc (by decide)], by dsimp only; rw [zup_eq], fun b j h1 h2 => ?_⟩
    · rw [b_M_keepTurn_61, if_pos (show (37 : Int32) ≤ nI i from nI_le (a := 37) (by omega) (by omega)), hk2, nI_add1]
    · dsimp only
      unfold zup
      rw [if_neg h2]
  | succ m ih =>
    intro i h hi hk2
    obtain ⟨h1, a1, a2, a3, a4, a5⟩ := ih (i + 1) (zup h.1 136 (37 * k + i) (h.1 137 i), h.2) (by omega) (by dsimp only; rw [zup_nc (by decide)]; exact hk2)
    refine ⟨h1, ?_, fun j h2 h3 => ?_, fun j h2 => ?_, a4, fun b j h2 h3 => ?_⟩
    · rw [b_M_keepTurn_61, if_neg (show ¬ (37 : Int32) ≤ nI i from nI_ge (b := 37) (by omega) (by omega)), hk2, k37 k hk i (by omega), if_pos (zin_nI (by omega) (by decide)), if_pos (zin_nI (by omega) (by decide)), nI_clamp (by omega), nI_clamp (by omega), nI_add1]
      exact a1
    · by_cases q : j = i
      · rw [a3 _ (by omega), q]
        dsimp only
        rw [zup_eq]
      · rw [a2 j (by omega) h3]
        dsimp only
        rw [zup_nc (by decide)]
    · rw [a3 j (by omega)]
      dsimp only
      rw [zup_ns (by omega)]
    · rw [a5 b j h2 h3]
      exact zup_nc h2
end z45
