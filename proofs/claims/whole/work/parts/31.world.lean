/-! the whole state, as both sides hold it -/
abbrev zN : Type := zT × Nat
/-- now; whether there is an image; the image; how many can be taken back; these; letters; the ROW; refusals -/
abbrev zW : Type := zN × Bool × zN × Nat × (Nat → zN) × Nat × zA × Nat × zA × zA
def wt (w : zW) : zT := w.1.1
def wn (w : zW) : Nat := w.1.2
def wi (w : zW) : Bool := w.2.1
def wj (w : zW) : zN := w.2.2.1
def wk (w : zW) : Nat := w.2.2.2.1
def ws (w : zW) : Nat → zN := w.2.2.2.2.1
def wm (w : zW) : Nat := w.2.2.2.2.2.1
def wf (w : zW) : zA := w.2.2.2.2.2.2.1
def wr (w : zW) : Nat := w.2.2.2.2.2.2.2.1
def wg (w : zW) : zA := w.2.2.2.2.2.2.2.2.1
def wR (w : zW) : zA := w.2.2.2.2.2.2.2.2.2
def NV (x : zN) : Prop := tV x.1 ∧ x.2 ≤ 999
def WV (w : zW) : Prop := NV w.1 ∧ (wi w = true → NV (wj w)) ∧ wk w ≤ 8 ∧ (∀ i, i < wk w → NV (ws w i)) ∧ wm w ≤ 96 ∧ (∀ j, j < wm w → rg (wf w j) 256) ∧ wr w ≤ 12 ∧ ∀ j, j < wr w → rg (wg w j) 100
/-- a hill that holds people and a night -/
def HN (h : zH) (a : Nat) (x : zN) : Prop := HR h a x.1 ∧ h.1 a 6 = nI x.2
/-- a row of numbers that holds them -/
def IN (I : Nat → Nat → Int32) (q o : Nat) (x : zN) : Prop := I q o = nI (tn x.1) ∧ I q (o + 1) = nI x.2 ∧ ∀ p, p < tn x.1 → I q (o + (2 + 5 * p)) = tK x.1 p ∧ I q (o + (2 + 5 * p + 1)) = tF x.1 p ∧ I q (o + (2 + 5 * p + 2)) = tC x.1 p ∧ I q (o + (2 + 5 * p + 3)) = tD x.1 p ∧ I q (o + (2 + 5 * p + 4)) = tS x.1 p
/-- the place of a hill that can be taken back -/
def pst (x i : Nat) : Nat := 23 + 6 * ((x + 7 - i) % 8)
def XP (h : zH) (w : zW) : Prop := HN h 2 w.1 ∧ (h.1 1 4 = (if wi w = true then 1 else 0) ∧ (wi w = true → HN h 15 (wj w))) ∧ (∃ x, x < 8 ∧ h.1 21 2 = nI x ∧ h.1 21 1 = nI (wk w) ∧ ∀ i, i < wk w → HN h (pst x i) (ws w i)) ∧ (h.1 71 1 = nI (wm w) ∧ ∀ j, j < wm w → h.1 72 j = wf w j) ∧ (h.1 1 8 = nI (wr w) ∧ ∀ j, j < wr w → h.1 73 j = wg w j) ∧ ∀ j, 1 ≤ j → j < 7 → h.1 74 j = wR w j
def MP (h : zH) (w : zW) : Prop := (MR h (wt w) ∧ h.1 123 6 = nI (wn w)) ∧ (h.1 123 21 = (if wi w = true then 1 else 0) ∧ (wi w = true → IN h.1 135 0 (wj w))) ∧ (h.1 123 27 = nI (wk w) ∧ ∀ i, i < wk w → IN h.1 136 (37 * (wk w - 1 - i)) (ws w i)) ∧ (h.1 123 12 = nI (wm w) ∧ ∀ j, j < wm w → h.1 130 j = wf w j) ∧ (h.1 123 32 = nI (wr w) ∧ ∀ j, j < wr w → h.1 139 j = wg w j) ∧ ∀ j, 1 ≤ j → j < 7 → h.1 129 j = wR w j
def FM (P : Nat → Nat → Prop) (h h' : zH) : Prop := ∀ b j, ¬ P b j → h'.1 b j = h.1 b j
theorem FM.rf {P : Nat → Nat → Prop} {h : zH} : FM P h h := fun _ _ _ => rfl
theorem FM.tr {P : Nat → Nat → Prop} {h h1 h2 : zH} (x : FM P h h1) (y : FM P h1 h2) : FM P h h2 := fun b j hb => (y b j hb).trans (x b j hb)
theorem FM.mono {P P' : Nat → Nat → Prop} {h h1 : zH} (x : FM P h h1) (hp : ∀ b j, P b j → P' b j) : FM P' h h1 := fun b j hb => x b j (fun q => hb (hp b j q))
theorem FM.up {P : Nat → Nat → Prop} {h : zH} {a j : Nat} {v : Int32} {y : Nat} (hp : P a j) : FM P h (zup h.1 a j v, y) := fun b i hb => by
  show zup h.1 a j v b i = _
  unfold zup
  rw [if_neg (fun q => hb (by rw [q.1, q.2]; exact hp))]
theorem FS.fm {P : Nat → Nat → Prop} {h h1 : zH} (x : FS P h h1) : FM P h h1 := x.2
theorem Fr.fm {lo hi : Nat} {h h1 : zH} (x : Fr lo hi h h1) {P : Nat → Nat → Prop} (hp : ∀ b j, lo ≤ b → b ≤ hi → P b j) : FM P h h1 := fun b j hb => x.2 b j (by
  rcases Nat.lt_or_ge b lo with q | q
  · exact Or.inl q
  · rcases Nat.lt_or_ge hi b with q2 | q2
    · exact Or.inr q2
    · exact absurd (hp b j q q2) hb)
/-- what the class's calls may write -/
def pXa (b _ : Nat) : Prop := b < 123
def pMa (b _ : Nat) : Prop := 123 ≤ b
/-- what the class's questions write: the hill in mind, and the deeper ones -/
def pXq (b _ : Nat) : Prop := (8 ≤ b ∧ b ≤ 13) ∨ (75 ≤ b ∧ b ≤ 122)
theorem HR.of {h h' : zH} {a : Nat} {t : zT} (R : HR h a t) (e : ∀ b j, a ≤ b → b ≤ a + 5 → h'.1 b j = h.1 b j) : HR h' a t := by
  refine ⟨by rw [e a 5 (Nat.le_refl _) (by omega)]; exact R.1, fun p hp => ?_⟩
  rw [e _ p (by omega) (by omega), e _ p (by omega) (by omega), e _ p (by omega) (by omega), e _ p (by omega) (by omega), e _ p (by omega) (by omega)]
  exact R.2 p hp
theorem HN.of {h h' : zH} {a : Nat} {x : zN} (R : HN h a x) (e : ∀ b j, a ≤ b → b ≤ a + 5 → h'.1 b j = h.1 b j) : HN h' a x := ⟨R.1.of e, by rw [e a 6 (Nat.le_refl _) (by omega)]; exact R.2⟩
theorem pst_le {x i : Nat} : 23 ≤ pst x i ∧ pst x i + 5 ≤ 70 := by unfold pst; omega
theorem XP.of {h h' : zH} {w : zW} (R : XP h w) (e : ∀ b j, b < 123 → ¬ pXq b j → h'.1 b j = h.1 b j) : XP h' w := by
  obtain ⟨r1, ⟨r2, r3⟩, ⟨x, x1, x2, x3, x4⟩, ⟨r4, r5⟩, ⟨r6, r7⟩, r8⟩ := R
  unfold pXq at e
  refine ⟨r1.of fun b j h1 h2 => e b j (by omega) (by omega), ⟨by rw [e 1 4 (by omega) (by omega)]; exact r2, fun z => (r3 z).of fun b j h1 h2 => e b j (by omega) (by omega)⟩, ⟨x, x1, by rw [e 21 2 (by omega) (by omega)]; exact x2, by rw [e 21 1 (by omega) (by omega)]; exact x3, fun i hi => (x4 i hi).of fun b j h1 h2 => e b j (by have := @pst_le x i; omega) (by have := @pst_le x i; omega)⟩, ⟨by rw [e 71 1 (by omega) (by omega)]; exact r4, fun j hj => by rw [e 72 j (by omega) (by omega)]; exact r5 j hj⟩, ⟨by rw [e 1 8 (by omega) (by omega)]; exact r6, fun j hj => by rw [e 73 j (by omega) (by omega)]; exact r7 j hj⟩, fun j h1 h2 => by rw [e 74 j (by omega) (by omega)]; exact r8 j h1 h2⟩
theorem XP.qry {h h' : zH} {w : zW} (R : XP h w) (f : FM pXq h h') : XP h' w := R.of fun b j _ hb => f b j hb
theorem XP.oth {h h' : zH} {w : zW} (R : XP h w) (f : FM pMa h h') : XP h' w := R.of fun b j h1 _ => f b j (by unfold pMa; omega)
/-- what the model's questions may write -/
def pS (b j : Nat) : Prop := (124 ≤ b ∧ b ≤ 128) ∨ b = 131 ∨ b = 132 ∨ b = 133 ∨ b = 134 ∨ b = 137 ∨ b = 138 ∨ b = 140 ∨ (b = 123 ∧ (j = 0 ∨ j = 6 ∨ j = 7 ∨ j = 9 ∨ j = 10 ∨ j = 13 ∨ j = 14 ∨ j = 15 ∨ j = 22 ∨ j = 23 ∨ j = 29 ∨ j = 30 ∨ j = 34))
theorem MR.of {h h' : zH} {t : zT} (R : MR h t) (hn : tn t ≤ 6) (e : ∀ j, j < 37 → lay h'.1 j = lay h.1 j) : MR h' t := by
  refine ⟨(e 0 (by decide)).trans R.1, fun p hp => ?_⟩
  have e1 : ∀ i, i < 5 → h'.1 (124 + i) p = h.1 (124 + i) p := fun i hi => by
    have := e (2 + 5 * p + i) (by omega)
    rw [lay_p hi, lay_p hi] at this
    exact this
  obtain ⟨r1, r2, r3, r4, r5⟩ := R.2 p hp
  exact ⟨(e1 0 (by decide)).trans r1, (e1 1 (by decide)).trans r2, (e1 2 (by decide)).trans r3, (e1 3 (by decide)).trans r4, (e1 4 (by decide)).trans r5⟩
theorem IN.of {I J : Nat → Nat → Int32} {q o : Nat} {x : zN} (R : IN I q o x) (e : ∀ j, J q j = I q j) : IN J q o x := by
  refine ⟨by rw [e]; exact R.1, by rw [e]; exact R.2.1, fun p hp => ?_⟩
  rw [e, e, e, e, e]
  exact R.2.2 p hp
theorem MP.of {h h' : zH} {w : zW} (R : MP h w) (m1 : MR h' (wt w)) (m2 : h'.1 123 6 = nI (wn w)) (e : ∀ b j, 123 ≤ b → ¬ pS b j → h'.1 b j = h.1 b j) : MP h' w := by
  obtain ⟨-, ⟨r2, r3⟩, ⟨x3, x4⟩, ⟨r4, r5⟩, ⟨r6, r7⟩, r8⟩ := R
  unfold pS at e
  refine ⟨⟨m1, m2⟩, ⟨by rw [e 123 21 (by omega) (by omega)]; exact r2, fun z => (r3 z).of fun j => e 135 j (by omega) (by omega)⟩, ⟨by rw [e 123 27 (by omega) (by omega)]; exact x3, fun i hi => (x4 i hi).of fun j => e 136 j (by omega) (by omega)⟩, ⟨by rw [e 123 12 (by omega) (by omega)]; exact r4, fun j hj => by rw [e 130 j (by omega) (by omega)]; exact r5 j hj⟩, ⟨by rw [e 123 32 (by omega) (by omega)]; exact r6, fun j hj => by rw [e 139 j (by omega) (by omega)]; exact r7 j hj⟩, fun j h1 h2 => by rw [e 129 j (by omega) (by omega)]; exact r8 j h1 h2⟩
theorem MP.qry {h h' : zH} {w : zW} (R : MP h w) (V : WV w) (l : ∀ j, j < 37 → lay h'.1 j = lay h.1 j) (e : FM pS h h') : MP h' w := R.of (R.1.1.of V.1.1.1 l) ((l 1 (by decide)).trans R.1.2) fun b j _ hb => e b j hb
theorem MP.oth {h h' : zH} {w : zW} (R : MP h w) (V : WV w) (f : FM pXa h h') : MP h' w := by
  have e : ∀ b i, 123 ≤ b → h'.1 b i = h.1 b i := fun b i hb => f b i (by unfold pXa; omega)
  have l : ∀ j, lay h'.1 j = lay h.1 j := fun j => by
    unfold lay
    by_cases h0 : j = 0
    · rw [if_pos h0, if_pos h0, e _ _ (by omega)]
    · rw [if_neg h0, if_neg h0]
      by_cases h1 : j = 1
      · rw [if_pos h1, if_pos h1, e _ _ (by omega)]
      · rw [if_neg h1, if_neg h1, e _ _ (by omega)]
  exact R.of (R.1.1.of V.1.1.1 fun j _ => l j) ((l 1).trans R.1.2) fun b j hb _ => e b j hb
/-- both sides answer alike, and hold the same state behind it -/
def OK2 (X : zX) (mx mm : zM) (as : List Value) (h : zH) : Prop := ∃ r h1 h2 w', zcf X mx (.ref 1 :: as) h = some (some (.int r), h1) ∧ zcf X mm (.ref 123 :: as) h1 = some (some (.int r), h2) ∧ XP h2 w' ∧ MP h2 w' ∧ WV w'
theorem OK2.mk {X : zX} {mx mm : zM} {as : List Value} {h : zH} {w w' : zW} {r : Int32} (hM : MP h w) (V : WV w) (V' : WV w') (sx : ∃ h1, zcf X mx (.ref 1 :: as) h = some (some (.int r), h1) ∧ XP h1 w' ∧ FM pXa h h1) (sm : ∀ h1, MP h1 w → ∃ h2, zcf X mm (.ref 123 :: as) h1 = some (some (.int r), h2) ∧ MP h2 w' ∧ FM pMa h1 h2) : OK2 X mx mm as h := by
  obtain ⟨h1, a1, a2, a3⟩ := sx
  obtain ⟨h2, b1, b2, b3⟩ := sm h1 (hM.oth V a3)
  exact ⟨r, h1, h2, w', a1, b1, a2.oth b3, b2, V'⟩
/-! refusals -/
def zrfs (w : zW) (k : Nat) : zW := (w.1, wi w, wj w, wk w, ws w, wm w, wf w, wr w, wg w, zua (wR w) k (wR w k + 1))
theorem WV.rfs {w : zW} (V : WV w) {k : Nat} : WV (zrfs w k) := V
section zref
variable {X : zX} {h : zH} {w : zW} {k : Nat} {x : Int32}
theorem s_refuse (hk1 : 1 ≤ k) (hk7 : k < 7) (hx : -x = nI k) : zcf X m_X_refuse [.ref 1, .int x] h = some (some (.int x), (zup h.1 74 k (h.1 74 k + 1), h.2)) := by
  rw [e_X_refuse, hx, s_at (b := 74) zc_74 (by decide) hk7 (by decide), zbI_some, s_put (b := 74) zc_74 (by decide) hk7 (by decide), zbV_some]
theorem m_refuse (hk1 : 1 ≤ k) (hk7 : k < 7) (hx : -x = nI k) : zcf X m_M_refuse [.ref 123, .int x] h = some (some (.int x), (zup h.1 129 k (h.1 129 k + 1), h.2)) := by
  rw [e_M_refuse, hx, if_pos (zin_nI hk7 (by decide)), if_pos (zin_nI hk7 (by decide)), nI_clamp (by omega)]
theorem XP.rfs (R : XP h w) (hk7 : k < 7) (hk1 : 1 ≤ k) : XP (zup h.1 74 k (h.1 74 k + 1), h.2) (zrfs w k) := by
  have e : ∀ b j, b ≠ 74 → zup h.1 74 k (h.1 74 k + 1) b j = h.1 b j := fun b j hb => zup_nc hb
  obtain ⟨r1, ⟨r2, r3⟩, ⟨y, x1, x2, x3, x4⟩, ⟨r4, r5⟩, ⟨r6, r7⟩, r8⟩ := R
  refine ⟨r1.of fun b j h1 h2 => e b j (by omega), ⟨(e 1 4 (by decide)).trans r2, fun z => (r3 z).of fun b j h1 h2 => e b j (by omega)⟩, ⟨y, x1, (e 21 2 (by decide)).trans x2, (e 21 1 (by decide)).trans x3, fun i hi => (x4 i hi).of fun b j h1 h2 => e b j (by have := @pst_le y i; omega)⟩, ⟨(e 71 1 (by decide)).trans r4, fun j hj => (e 72 j (by decide)).trans (r5 j hj)⟩, ⟨(e 1 8 (by decide)).trans r6, fun j hj => (e 73 j (by decide)).trans (r7 j hj)⟩, fun j h1 h2 => ?_⟩
  show zup h.1 74 k (h.1 74 k + 1) 74 j = zua (wR w) k (wR w k + 1) j
  rw [r8 k hk1 hk7]
  exact zup_zua (r8 j h1 h2)
theorem MP.rfs (R : MP h w) (hk7 : k < 7) (hk1 : 1 ≤ k) : MP (zup h.1 129 k (h.1 129 k + 1), h.2) (zrfs w k) := by
  have e : ∀ b j, b ≠ 129 → zup h.1 129 k (h.1 129 k + 1) b j = h.1 b j := fun b j hb => zup_nc hb
  obtain ⟨⟨r0, r1⟩, ⟨r2, r3⟩, ⟨x3, x4⟩, ⟨r4, r5⟩, ⟨r6, r7⟩, r8⟩ := R
  refine ⟨⟨r0.cel (Or.inr (by decide)), (e 123 6 (by decide)).trans r1⟩, ⟨(e 123 21 (by decide)).trans r2, fun z => (r3 z).of fun j => e 135 j (by decide)⟩, ⟨(e 123 27 (by decide)).trans x3, fun i hi => (x4 i hi).of fun j => e 136 j (by decide)⟩, ⟨(e 123 12 (by decide)).trans r4, fun j hj => (e 130 j (by decide)).trans (r5 j hj)⟩, ⟨(e 123 32 (by decide)).trans r6, fun j hj => (e 139 j (by decide)).trans (r7 j hj)⟩, fun j h1 h2 => ?_⟩
  show zup h.1 129 k (h.1 129 k + 1) 129 j = zua (wR w) k (wR w k + 1) j
  rw [r8 k hk1 hk7]
  exact zup_zua (r8 j h1 h2)
/-- 'thrown' is put to 0 -/
theorem MP.th (R : MP h w) (V : WV w) {v : Int32} : MP (zup h.1 123 7 v, h.2) w := R.of (R.1.1.fld (by decide)) (by dsimp only; rw [zup_ns (by decide)]; exact R.1.2) fun b j _ hb => by
  show zup h.1 123 7 v b j = _
  unfold zup
  rw [if_neg (fun z => hb (by unfold pS; omega))]
/-- both refuse alike -/
theorem OK2.ref {mx mm : zM} {as : List Value} (hX : XP h w) (hM : MP h w) (V : WV w) (hk7 : k < 7) (hk1 : 1 ≤ k) (hx : -x = nI k) (sx : zcf X mx (.ref 1 :: as) h = some (some (.int x), (zup h.1 74 k (h.1 74 k + 1), h.2))) (sm : ∀ h1, MP h1 w → zcf X mm (.ref 123 :: as) h1 = some (some (.int x), (zup (zup h1.1 123 7 0) 129 k ((zup h1.1 123 7 0) 129 k + 1), h1.2))) : OK2 X mx mm as h :=
  OK2.mk (w' := zrfs w k) hM V V ⟨_, sx, hX.rfs hk7 hk1, FM.up (by unfold pXa; decide)⟩ fun h1 hM1 => ⟨_, sm h1 hM1, (hM1.th V).rfs (h := (zup h1.1 123 7 0, h1.2)) hk7 hk1, FM.tr (h1 := (zup h1.1 123 7 0, h1.2)) (FM.up (by unfold pMa; decide)) (FM.up (h := (zup h1.1 123 7 0, h1.2)) (by unfold pMa; decide))⟩
end zref
