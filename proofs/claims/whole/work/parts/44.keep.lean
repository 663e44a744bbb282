/-! what can be taken back -/
/-- one more is kept, of the last eight -/
def kp (w : zW) : zW := uP w (if wk w < 8 then wk w + 1 else 8) (fun i => if i = 0 then w.1 else ws w (i - 1))
theorem wv_kp {w : zW} (V : WV w) : WV (kp w) := by
  have h8 := V.2.2.1
  refine V.uP ?_ fun i hi => ?_
  · split <;> omega
  · by_cases h0 : i = 0
    · rw [if_pos h0]; exact V.1
    · rw [if_neg h0]
      refine V.2.2.2.1 (i - 1) ?_
      by_cases h1 : wk w < 8
      · rw [if_pos h1] at hi; omega
      · rw [if_neg h1] at hi; omega
theorem mod8 : ∀ x, x < 8 → zrem (nI x + 1) 8 = nI ((x + 1) % 8) := by decide +kernel
theorem mod8b : ∀ x, x < 8 → zrem ((nI x + 8) - 1) 8 = nI ((x + 7) % 8) := by decide +kernel
theorem kp8 : ∀ k, k ≤ 8 → (if nI k + 1 < (8 : Int32) then nI k + 1 else 8) = nI (if k < 8 then k + 1 else 8) := by decide +kernel
section z44
variable {X : zX} {h h0 : zH} {w : zW} {t : zT}
theorem s_keep (hX : XP h w) (V : WV w) : ∃ h', zcf X m_P_keep [.ref 21, .ref 2] h = some (none, h') ∧ XP h' (kp w) ∧ FM pXa h h' ∧ HR h' 2 (wt w) := by
  obtain ⟨x, x1, x2, x3, x4⟩ := hX.2.2.1
  have h8 := V.2.2.1
  have PW : zcf X m_P_placeAt [.ref 21, .int (h.1 21 2)] h = some (some (.ref (23 + 6 * x)), h) := by rw [x2]; exact e_P_placeAt x1
  obtain ⟨h1, a1, a2, a3, a4⟩ := s_become (X := X) (hH_p x1) hH_2 (Or.inr (by omega)) hX.1.1 V.1.1.1
  have e : ∀ b j, (b < 23 + 6 * x ∨ 23 + 6 * x + 5 < b) → h1.1 b j = h.1 b j := a4.2
  have f : ∀ (u v : Int32) b j, b ≠ 21 → (zup (zup h1.1 21 2 u) 21 1 v) b j = h1.1 b j := fun u v b j hb => by rw [zup_nc hb, zup_nc hb]
  refine ⟨(zup (zup h1.1 21 2 (nI ((x + 1) % 8))) 21 1 (nI (if wk w < 8 then wk w + 1 else 8)), h1.2), ?_, ?_, ?_, ?_⟩
  · rw [e_P_keep hH_2 (hH_p x1) PW, a1, zbV_some, e 21 2 (by omega), x2, mod8 x x1, zup_ns (by decide), e 21 1 (by omega), x3, kp8 _ h8]
  · refine hX.uP ⟨(x + 1) % 8, by omega, ?_, ?_, fun i hi => ?_⟩ fun b j _ h1' _ => ?_
    · dsimp only; rw [zup_ns (by decide), zup_eq]
    · dsimp only; rw [zup_eq]
    · by_cases h0 : i = 0
      · subst h0
        have ep : pst ((x + 1) % 8) 0 = 23 + 6 * x := by unfold pst; omega
        rw [ep, if_pos rfl]
        exact ⟨a2.of fun b j h1 _ => f _ _ b j (by omega), by dsimp only; rw [f _ _ _ _ (by omega), a3]; exact hX.1.2⟩
      · rw [if_neg h0]
        have hi' : i - 1 < wk w ∧ i < 8 := by
          by_cases h1 : wk w < 8
          · rw [if_pos h1] at hi; omega
          · rw [if_neg h1] at hi; omega
        have ep : pst ((x + 1) % 8) i = pst x (i - 1) := by unfold pst; omega
        rw [ep]
        refine (x4 (i - 1) hi'.1).of fun b j h1 h2 => ?_
        dsimp only
        have := @pst_le x (i - 1)
        rw [f _ _ _ _ (by omega), e b j ?_]
        unfold pst at h1 h2
        omega
    · dsimp only
      rw [f _ _ _ _ (by omega), e b j (by omega)]
  · intro b j hb
    unfold pXa at hb
    dsimp only
    rw [f _ _ _ _ (by omega), e b j (by omega)]
  · exact hX.1.1.of fun b j h1 h2 => by dsimp only; rw [f _ _ _ _ (by omega), e b j (by omega)]
end z44
