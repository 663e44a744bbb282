/-! what can be taken back, in the model -/
section z45
variable {X : zX} {h h0 : zH} {w : zW} {t : zT}
theorem shl : ∀ i, i < 296 → 37 ≤ i → nI i - 37 = nI (i - 37) := by decide +kernel
theorem m_shF : ∀ (m i : Nat) (h : zH), i + m = 296 → 37 ≤ i → ∃ h1, zrn X 2 m_M_keepTurn 12 [some (.ref 123), some (.int (nI i))] [] h = zrn X 2 m_M_keepTurn 12 [some (.ref 123), some (.int (nI 296))] [] h1 ∧ (∀ j, i ≤ j + 37 → j + 37 < 296 → h1.1 136 j = h.1 136 (j + 37)) ∧ (∀ j, j + 37 < i → h1.1 136 j = h.1 136 j) ∧ ∀ b j, b ≠ 136 → h1.1 b j = h.1 b j := by
  intro m
  induction m with
  | zero =>
    intro i h hi h37
    refine ⟨h, by rw [show i = 296 by omega], fun j h1 h2 => by omega, fun _ _ => rfl, fun _ _ _ => rfl⟩
  | succ m ih =>
    intro i h hi h37
    obtain ⟨h1, a1, a2, a4, a3⟩ := ih (i + 1) (zup h.1 136 (i - 37) (h.1 136 i), h.2) (by omega) (by omega)
    refine ⟨h1, ?_, fun j h2 h3 => ?_, fun j h2 => ?_, fun b j hb => ?_⟩
    · rw [b_M_keepTurn_12, if_neg (show ¬ (296 : Int32) ≤ nI i from nI_ge (b := 296) (by omega) (by omega)), if_pos (zin_nI (by omega) (by decide)), shl i (by omega) h37, if_pos (zin_nI (by omega) (by decide)), nI_clamp (by omega), nI_clamp (by omega), nI_add1]
      exact a1
    · by_cases q : i = j + 37
      · rw [a4 j (by omega), ← q]
        dsimp only
        rw [show i - 37 = j by omega, zup_eq]
      · rw [a2 j (by omega) h3]
        dsimp only
        rw [zup_ns (by omega)]
    · rw [a4 j (by omega)]
      dsimp only
      rw [zup_ns (by omega)]
    · rw [a3 b j hb]
      exact zup_nc hb
end z45
