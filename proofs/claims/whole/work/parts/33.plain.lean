/-! changes of the whole state, and plain calls -/
def uN (w : zW) (x : zN) : zW := (x, wi w, wj w, wk w, ws w, wm w, wf w, wr w, wg w, wR w)
def uI (w : zW) (x : zN) : zW := (w.1, true, x, wk w, ws w, wm w, wf w, wr w, wg w, wR w)
def uP (w : zW) (k : Nat) (s : Nat → zN) : zW := (w.1, wi w, wj w, k, s, wm w, wf w, wr w, wg w, wR w)
def uT (w : zW) (m : Nat) (f : zA) : zW := (w.1, wi w, wj w, wk w, ws w, m, f, wr w, wg w, wR w)
def uG (w : zW) (m : Nat) (f : zA) : zW := (w.1, wi w, wj w, wk w, ws w, wm w, wf w, m, f, wR w)
section zup33
variable {h h' : zH} {w : zW} {x : zN} {m : Nat} {f : zA} {s : Nat → zN}
theorem WV.uN (V : WV w) (v : NV x) : WV (uN w x) := ⟨v, V.2⟩
theorem WV.uI (V : WV w) (v : NV x) : WV (uI w x) := ⟨V.1, fun _ => v, V.2.2⟩
theorem WV.uP (V : WV w) (h1 : m ≤ 8) (h2 : ∀ i, i < m → NV (s i)) : WV (uP w m s) := ⟨V.1, V.2.1, h1, h2, V.2.2.2.2⟩
theorem WV.uT (V : WV w) (h1 : m ≤ 96) (h2 : ∀ j, j < m → rg (f j) 256) : WV (uT w m f) := ⟨V.1, V.2.1, V.2.2.1, V.2.2.2.1, h1, h2, V.2.2.2.2.2.2⟩
theorem WV.uG (V : WV w) (h1 : m ≤ 12) (h2 : ∀ j, j < m → rg (f j) 100) : WV (uG w m f) := ⟨V.1, V.2.1, V.2.2.1, V.2.2.2.1, V.2.2.2.2.1, V.2.2.2.2.2.1, h1, h2⟩
theorem XP.uN (R : XP h w) (n : HN h' 2 x) (e : ∀ b j, b < 123 → (b < 2 ∨ 7 < b) → ¬ pXq b j → h'.1 b j = h.1 b j) : XP h' (uN w x) := by
  obtain ⟨r1, ⟨r2, r3⟩, ⟨x, x1, x2, x3, x4⟩, ⟨r4, r5⟩, ⟨r6, r7⟩, r8⟩ := R
  unfold pXq at e
  refine ⟨n, ⟨by rw [e 1 4 (by omega) (by omega) (by omega)]; exact r2, fun z => (r3 z).of fun b j h1 h2 => e b j (by omega) (by omega) (by omega)⟩, ⟨x, x1, by rw [e 21 2 (by omega) (by omega) (by omega)]; exact x2, by rw [e 21 1 (by omega) (by omega) (by omega)]; exact x3, fun i hi => (x4 i hi).of fun b j h1 h2 => e b j (by have := @pst_le x i; omega) (by have := @pst_le x i; omega) (by have := @pst_le x i; omega)⟩, ⟨by rw [e 71 1 (by omega) (by omega) (by omega)]; exact r4, fun j hj => by rw [e 72 j (by omega) (by omega) (by omega)]; exact r5 j hj⟩, ⟨by rw [e 1 8 (by omega) (by omega) (by omega)]; exact r6, fun j hj => by rw [e 73 j (by omega) (by omega) (by omega)]; exact r7 j hj⟩, fun j h1 h2 => by rw [e 74 j (by omega) (by omega) (by omega)]; exact r8 j h1 h2⟩
theorem XP.uI (R : XP h w) (n : HN h' 15 x) (n1 : h'.1 1 4 = 1) (e : ∀ b j, b < 123 → (b < 15 ∨ 20 < b) → ¬ (b = 1 ∧ j = 4) → ¬ pXq b j → h'.1 b j = h.1 b j) : XP h' (uI w x) := by
  obtain ⟨r1, ⟨r2, r3⟩, ⟨x, x1, x2, x3, x4⟩, ⟨r4, r5⟩, ⟨r6, r7⟩, r8⟩ := R
  unfold pXq at e
  refine ⟨r1.of fun b j h1 h2 => e b j (by omega) (by omega) (by omega) (by omega), ⟨n1, fun _ => n⟩, ⟨x, x1, by rw [e 21 2 (by omega) (by omega) (by omega) (by omega)]; exact x2, by rw [e 21 1 (by omega) (by omega) (by omega) (by omega)]; exact x3, fun i hi => (x4 i hi).of fun b j h1 h2 => e b j (by have := @pst_le x i; omega) (by have := @pst_le x i; omega) (by have := @pst_le x i; omega) (by have := @pst_le x i; omega)⟩, ⟨by rw [e 71 1 (by omega) (by omega) (by omega) (by omega)]; exact r4, fun j hj => by rw [e 72 j (by omega) (by omega) (by omega) (by omega)]; exact r5 j hj⟩, ⟨by rw [e 1 8 (by omega) (by omega) (by omega) (by omega)]; exact r6, fun j hj => by rw [e 73 j (by omega) (by omega) (by omega) (by omega)]; exact r7 j hj⟩, fun j h1 h2 => by rw [e 74 j (by omega) (by omega) (by omega) (by omega)]; exact r8 j h1 h2⟩
theorem XP.uP (R : XP h w) (n : ∃ x, x < 8 ∧ h'.1 21 2 = nI x ∧ h'.1 21 1 = nI m ∧ ∀ i, i < m → HN h' (pst x i) (s i)) (e : ∀ b j, b < 123 → (b < 21 ∨ 70 < b) → ¬ pXq b j → h'.1 b j = h.1 b j) : XP h' (uP w m s) := by
  obtain ⟨r1, ⟨r2, r3⟩, -, ⟨r4, r5⟩, ⟨r6, r7⟩, r8⟩ := R
  unfold pXq at e
  refine ⟨r1.of fun b j h1 h2 => e b j (by omega) (by omega) (by omega), ⟨by rw [e 1 4 (by omega) (by omega) (by omega)]; exact r2, fun z => (r3 z).of fun b j h1 h2 => e b j (by omega) (by omega) (by omega)⟩, n, ⟨by rw [e 71 1 (by omega) (by omega) (by omega)]; exact r4, fun j hj => by rw [e 72 j (by omega) (by omega) (by omega)]; exact r5 j hj⟩, ⟨by rw [e 1 8 (by omega) (by omega) (by omega)]; exact r6, fun j hj => by rw [e 73 j (by omega) (by omega) (by omega)]; exact r7 j hj⟩, fun j h1 h2 => by rw [e 74 j (by omega) (by omega) (by omega)]; exact r8 j h1 h2⟩
theorem XP.uT (R : XP h w) (n : h'.1 71 1 = nI m) (n1 : ∀ j, j < m → h'.1 72 j = f j) (e : ∀ b j, b < 123 → b ≠ 71 → b ≠ 72 → ¬ pXq b j → h'.1 b j = h.1 b j) : XP h' (uT w m f) := by
  obtain ⟨r1, ⟨r2, r3⟩, ⟨x, x1, x2, x3, x4⟩, -, ⟨r6, r7⟩, r8⟩ := R
  unfold pXq at e
  refine ⟨r1.of fun b j h1 h2 => e b j (by omega) (by omega) (by omega) (by omega), ⟨by rw [e 1 4 (by omega) (by omega) (by omega) (by omega)]; exact r2, fun z => (r3 z).of fun b j h1 h2 => e b j (by omega) (by omega) (by omega) (by omega)⟩, ⟨x, x1, by rw [e 21 2 (by omega) (by omega) (by omega) (by omega)]; exact x2, by rw [e 21 1 (by omega) (by omega) (by omega) (by omega)]; exact x3, fun i hi => (x4 i hi).of fun b j h1 h2 => e b j (by have := @pst_le x i; omega) (by have := @pst_le x i; omega) (by have := @pst_le x i; omega) (by have := @pst_le x i; omega)⟩, ⟨n, n1⟩, ⟨by rw [e 1 8 (by omega) (by omega) (by omega) (by omega)]; exact r6, fun j hj => by rw [e 73 j (by omega) (by omega) (by omega) (by omega)]; exact r7 j hj⟩, fun j h1 h2 => by rw [e 74 j (by omega) (by omega) (by omega) (by omega)]; exact r8 j h1 h2⟩
theorem XP.uG (R : XP h w) (n : h'.1 1 8 = nI m) (n1 : ∀ j, j < m → h'.1 73 j = f j) (e : ∀ b j, b < 123 → b ≠ 73 → ¬ (b = 1 ∧ j = 8) → ¬ pXq b j → h'.1 b j = h.1 b j) : XP h' (uG w m f) := by
  obtain ⟨r1, ⟨r2, r3⟩, ⟨x, x1, x2, x3, x4⟩, ⟨r4, r5⟩, -, r8⟩ := R
  unfold pXq at e
  refine ⟨r1.of fun b j h1 h2 => e b j (by omega) (by omega) (by omega) (by omega), ⟨by rw [e 1 4 (by omega) (by omega) (by omega) (by omega)]; exact r2, fun z => (r3 z).of fun b j h1 h2 => e b j (by omega) (by omega) (by omega) (by omega)⟩, ⟨x, x1, by rw [e 21 2 (by omega) (by omega) (by omega) (by omega)]; exact x2, by rw [e 21 1 (by omega) (by omega) (by omega) (by omega)]; exact x3, fun i hi => (x4 i hi).of fun b j h1 h2 => e b j (by have := @pst_le x i; omega) (by have := @pst_le x i; omega) (by have := @pst_le x i; omega) (by have := @pst_le x i; omega)⟩, ⟨by rw [e 71 1 (by omega) (by omega) (by omega) (by omega)]; exact r4, fun j hj => by rw [e 72 j (by omega) (by omega) (by omega) (by omega)]; exact r5 j hj⟩, ⟨n, n1⟩, fun j h1 h2 => by rw [e 74 j (by omega) (by omega) (by omega) (by omega)]; exact r8 j h1 h2⟩
theorem MP.uN (R : MP h w) (n : MR h' x.1) (n1 : h'.1 123 6 = nI x.2) (e : ∀ b j, 123 ≤ b → ¬ pS b j → h'.1 b j = h.1 b j) : MP h' (uN w x) := by
  obtain ⟨-, ⟨r2, r3⟩, ⟨x3, x4⟩, ⟨r4, r5⟩, ⟨r6, r7⟩, r8⟩ := R
  unfold pS at e
  refine ⟨⟨n, n1⟩, ⟨by rw [e 123 21 (by omega) (by omega)]; exact r2, fun z => (r3 z).of fun j => e 135 j (by omega) (by omega)⟩, ⟨by rw [e 123 27 (by omega) (by omega)]; exact x3, fun i hi => (x4 i hi).of fun j => e 136 j (by omega) (by omega)⟩, ⟨by rw [e 123 12 (by omega) (by omega)]; exact r4, fun j hj => by rw [e 130 j (by omega) (by omega)]; exact r5 j hj⟩, ⟨by rw [e 123 32 (by omega) (by omega)]; exact r6, fun j hj => by rw [e 139 j (by omega) (by omega)]; exact r7 j hj⟩, fun j h1 h2 => by rw [e 129 j (by omega) (by omega)]; exact r8 j h1 h2⟩
/-- the people and the night as they were -/
def sM (h h' : zH) : Prop := h'.1 123 0 = h.1 123 0 ∧ h'.1 123 6 = h.1 123 6 ∧ ∀ b j, 124 ≤ b → b ≤ 128 → h'.1 b j = h.1 b j
theorem sM.mr (s : sM h h') {t : zT} (R : MR h t) : MR h' t := by
  obtain ⟨s1, s2, s3⟩ := s
  refine ⟨s1.trans R.1, fun p hp => ?_⟩
  rw [s3 _ p (by decide) (by decide), s3 _ p (by decide) (by decide), s3 _ p (by decide) (by decide), s3 _ p (by decide) (by decide), s3 _ p (by decide) (by decide)]
  exact R.2 p hp
theorem MP.uI (R : MP h w) (n : IN h'.1 135 0 x) (n1 : h'.1 123 21 = 1) (l : sM h h') (e : ∀ b j, 123 ≤ b → b ≠ 135 → ¬ (b = 123 ∧ j = 21) → ¬ pS b j → h'.1 b j = h.1 b j) : MP h' (uI w x) := by
  obtain ⟨⟨m1, m2⟩, -, ⟨x3, x4⟩, ⟨r4, r5⟩, ⟨r6, r7⟩, r8⟩ := R
  unfold pS at e
  refine ⟨⟨l.mr m1, l.2.1.trans m2⟩, ⟨n1, fun _ => n⟩, ⟨by rw [e 123 27 (by omega) (by omega) (by omega) (by omega)]; exact x3, fun i hi => (x4 i hi).of fun j => e 136 j (by omega) (by omega) (by omega) (by omega)⟩, ⟨by rw [e 123 12 (by omega) (by omega) (by omega) (by omega)]; exact r4, fun j hj => by rw [e 130 j (by omega) (by omega) (by omega) (by omega)]; exact r5 j hj⟩, ⟨by rw [e 123 32 (by omega) (by omega) (by omega) (by omega)]; exact r6, fun j hj => by rw [e 139 j (by omega) (by omega) (by omega) (by omega)]; exact r7 j hj⟩, fun j h1 h2 => by rw [e 129 j (by omega) (by omega) (by omega) (by omega)]; exact r8 j h1 h2⟩
theorem MP.uP (R : MP h w) (n : h'.1 123 27 = nI m) (n1 : ∀ i, i < m → IN h'.1 136 (37 * (m - 1 - i)) (s i)) (l : sM h h') (e : ∀ b j, 123 ≤ b → b ≠ 136 → ¬ (b = 123 ∧ j = 27) → ¬ pS b j → h'.1 b j = h.1 b j) : MP h' (uP w m s) := by
  obtain ⟨⟨m1, m2⟩, ⟨r2, r3⟩, -, ⟨r4, r5⟩, ⟨r6, r7⟩, r8⟩ := R
  unfold pS at e
  refine ⟨⟨l.mr m1, l.2.1.trans m2⟩, ⟨by rw [e 123 21 (by omega) (by omega) (by omega) (by omega)]; exact r2, fun z => (r3 z).of fun j => e 135 j (by omega) (by omega) (by omega) (by omega)⟩, ⟨n, n1⟩, ⟨by rw [e 123 12 (by omega) (by omega) (by omega) (by omega)]; exact r4, fun j hj => by rw [e 130 j (by omega) (by omega) (by omega) (by omega)]; exact r5 j hj⟩, ⟨by rw [e 123 32 (by omega) (by omega) (by omega) (by omega)]; exact r6, fun j hj => by rw [e 139 j (by omega) (by omega) (by omega) (by omega)]; exact r7 j hj⟩, fun j h1 h2 => by rw [e 129 j (by omega) (by omega) (by omega) (by omega)]; exact r8 j h1 h2⟩
theorem MP.uT (R : MP h w) (n : h'.1 123 12 = nI m) (n1 : ∀ j, j < m → h'.1 130 j = f j) (l : sM h h') (e : ∀ b j, 123 ≤ b → b ≠ 130 → ¬ (b = 123 ∧ j = 12) → ¬ pS b j → h'.1 b j = h.1 b j) : MP h' (uT w m f) := by
  obtain ⟨⟨m1, m2⟩, ⟨r2, r3⟩, ⟨x3, x4⟩, -, ⟨r6, r7⟩, r8⟩ := R
  unfold pS at e
  refine ⟨⟨l.mr m1, l.2.1.trans m2⟩, ⟨by rw [e 123 21 (by omega) (by omega) (by omega) (by omega)]; exact r2, fun z => (r3 z).of fun j => e 135 j (by omega) (by omega) (by omega) (by omega)⟩, ⟨by rw [e 123 27 (by omega) (by omega) (by omega) (by omega)]; exact x3, fun i hi => (x4 i hi).of fun j => e 136 j (by omega) (by omega) (by omega) (by omega)⟩, ⟨n, n1⟩, ⟨by rw [e 123 32 (by omega) (by omega) (by omega) (by omega)]; exact r6, fun j hj => by rw [e 139 j (by omega) (by omega) (by omega) (by omega)]; exact r7 j hj⟩, fun j h1 h2 => by rw [e 129 j (by omega) (by omega) (by omega) (by omega)]; exact r8 j h1 h2⟩
theorem MP.uG (R : MP h w) (n : h'.1 123 32 = nI m) (n1 : ∀ j, j < m → h'.1 139 j = f j) (l : sM h h') (e : ∀ b j, 123 ≤ b → b ≠ 139 → ¬ (b = 123 ∧ j = 32) → ¬ pS b j → h'.1 b j = h.1 b j) : MP h' (uG w m f) := by
  obtain ⟨⟨m1, m2⟩, ⟨r2, r3⟩, ⟨x3, x4⟩, ⟨r4, r5⟩, -, r8⟩ := R
  unfold pS at e
  refine ⟨⟨l.mr m1, l.2.1.trans m2⟩, ⟨by rw [e 123 21 (by omega) (by omega) (by omega) (by omega)]; exact r2, fun z => (r3 z).of fun j => e 135 j (by omega) (by omega) (by omega) (by omega)⟩, ⟨by rw [e 123 27 (by omega) (by omega) (by omega) (by omega)]; exact x3, fun i hi => (x4 i hi).of fun j => e 136 j (by omega) (by omega) (by omega) (by omega)⟩, ⟨by rw [e 123 12 (by omega) (by omega) (by omega) (by omega)]; exact r4, fun j hj => by rw [e 130 j (by omega) (by omega) (by omega) (by omega)]; exact r5 j hj⟩, ⟨n, n1⟩, fun j h1 h2 => by rw [e 129 j (by omega) (by omega) (by omega) (by omega)]; exact r8 j h1 h2⟩
end zup33
section zpl
variable {X : zX} {h : zH} {w : zW} {mx mm : zM} {as : List Value}
theorem OK2.go {w' : zW} {r : Int32} (hM : MP h w) (V : WV w) (V' : WV w') (sx : ∃ h1, zcf X mx (.ref 1 :: as) h = some (some (.int r), h1) ∧ XP h1 w' ∧ FM pXa h h1) (sm : ∀ h1 H : zH, zup h1.1 123 7 0 = H.1 → h1.2 = H.2 → MP H w → ∃ h2, zcf X mm (.ref 123 :: as) h1 = some (some (.int r), h2) ∧ MP h2 w' ∧ FM pMa H h2) : OK2 X mx mm as h :=
  OK2.mk hM V V' sx fun h1 hM1 => by
    obtain ⟨h2, a1, a2, a3⟩ := sm h1 (zup h1.1 123 7 0, h1.2) rfl rfl (hM1.th V)
    exact ⟨h2, a1, a2, FM.tr (FM.up (by unfold pMa; decide)) a3⟩
theorem pXq_a {b j : Nat} (q : pXq b j) : pXa b j := by unfold pXq at q; unfold pXa; omega
theorem OK2.qy {r : Int32} (hX : XP h w) (hM : MP h w) (V : WV w) (sx : ∃ h1, zcf X mx (.ref 1 :: as) h = some (some (.int r), h1) ∧ FM pXq h h1) (sm : ∀ h1 H : zH, zup h1.1 123 7 0 = H.1 → h1.2 = H.2 → MP H w → ∃ h2, zcf X mm (.ref 123 :: as) h1 = some (some (.int r), h2) ∧ MP h2 w ∧ FM pMa H h2) : OK2 X mx mm as h := by
  obtain ⟨h1, a1, a2⟩ := sx
  exact OK2.go hM V V ⟨h1, a1, hX.qry a2, a2.mono fun _ _ => pXq_a⟩ sm
theorem OK2.no (k : Nat) {x : Int32} (hX : XP h w) (hM : MP h w) (V : WV w) (hk1 : 1 ≤ k) (hk7 : k < 7) (hx : -x = nI k) (sx : zcf X mx (.ref 1 :: as) h = zcf X m_X_refuse [.ref 1, .int x] h) (sm : ∀ h1 H : zH, zup h1.1 123 7 0 = H.1 → h1.2 = H.2 → MP H w → ∃ h2, zcf X mm (.ref 123 :: as) h1 = zcf X m_M_refuse [.ref 123, .int x] h2 ∧ MP h2 w ∧ FM pMa H h2) : OK2 X mx mm as h := by
  refine OK2.go (r := x) (w' := zrfs w k) hM V V ⟨_, sx.trans (s_refuse hk1 hk7 hx), hX.rfs hk7 hk1, FM.up (by unfold pXa; decide)⟩ fun h1 H i1 i2 R => ?_
  obtain ⟨h2, a1, a2, a3⟩ := sm h1 H i1 i2 R
  exact ⟨_, a1.trans (m_refuse hk1 hk7 hx), a2.rfs hk7 hk1, a3.tr (FM.up (by unfold pMa; decide))⟩
theorem zrx {k : Nat} {x : Int32} (hk1 : 1 ≤ k) (hk7 : k < 7) (hx : -x = nI k) : (zbI (zcf X m_X_refuse [.ref 1, .int x] h) fun v h1 => (some (some (.int v), h1))) = zcf X m_X_refuse [.ref 1, .int x] h := by rw [s_refuse hk1 hk7 hx, zbI_some]
theorem zrfm {k : Nat} {x : Int32} (hk1 : 1 ≤ k) (hk7 : k < 7) (hx : -x = nI k) : (zbI (zcf X m_M_refuse [.ref 123, .int x] h) fun v h1 => (some (some (.int v), h1))) = zcf X m_M_refuse [.ref 123, .int x] h := by rw [m_refuse hk1 hk7 hx, zbI_some]
theorem zrx1 : (zbI (zcf X m_X_refuse [.ref 1, .int (-1)] h) fun v h1 => (some (some (.int v), h1))) = zcf X m_X_refuse [.ref 1, .int (-1)] h := zrx (k := 1) (by decide) (by decide) (by decide)
theorem zrx2 : (zbI (zcf X m_X_refuse [.ref 1, .int (-2)] h) fun v h1 => (some (some (.int v), h1))) = zcf X m_X_refuse [.ref 1, .int (-2)] h := zrx (k := 2) (by decide) (by decide) (by decide)
theorem zrx3 : (zbI (zcf X m_X_refuse [.ref 1, .int (-3)] h) fun v h1 => (some (some (.int v), h1))) = zcf X m_X_refuse [.ref 1, .int (-3)] h := zrx (k := 3) (by decide) (by decide) (by decide)
theorem zrx4 : (zbI (zcf X m_X_refuse [.ref 1, .int (-4)] h) fun v h1 => (some (some (.int v), h1))) = zcf X m_X_refuse [.ref 1, .int (-4)] h := zrx (k := 4) (by decide) (by decide) (by decide)
theorem zrx6 : (zbI (zcf X m_X_refuse [.ref 1, .int (-6)] h) fun v h1 => (some (some (.int v), h1))) = zcf X m_X_refuse [.ref 1, .int (-6)] h := zrx (k := 6) (by decide) (by decide) (by decide)
theorem zrm1 : (zbI (zcf X m_M_refuse [.ref 123, .int (-1)] h) fun v h1 => (some (some (.int v), h1))) = zcf X m_M_refuse [.ref 123, .int (-1)] h := zrfm (k := 1) (by decide) (by decide) (by decide)
theorem zrm2 : (zbI (zcf X m_M_refuse [.ref 123, .int (-2)] h) fun v h1 => (some (some (.int v), h1))) = zcf X m_M_refuse [.ref 123, .int (-2)] h := zrfm (k := 2) (by decide) (by decide) (by decide)
theorem zrm3 : (zbI (zcf X m_M_refuse [.ref 123, .int (-3)] h) fun v h1 => (some (some (.int v), h1))) = zcf X m_M_refuse [.ref 123, .int (-3)] h := zrfm (k := 3) (by decide) (by decide) (by decide)
theorem zrm4 : (zbI (zcf X m_M_refuse [.ref 123, .int (-4)] h) fun v h1 => (some (some (.int v), h1))) = zcf X m_M_refuse [.ref 123, .int (-4)] h := zrfm (k := 4) (by decide) (by decide) (by decide)
theorem zrm6 : (zbI (zcf X m_M_refuse [.ref 123, .int (-6)] h) fun v h1 => (some (some (.int v), h1))) = zcf X m_M_refuse [.ref 123, .int (-6)] h := zrfm (k := 6) (by decide) (by decide) (by decide)
theorem rg0 {x : Int32} {n : Nat} (hn : n < 2 ^ 31) (h : rg x n) : 0 ≤ x := rg_pos h hn
theorem rg_neg {x : Int32} {n : Nat} (hn : n < 2 ^ 31) (h : ¬ 0 ≤ x) : ¬ rg x n := fun q => h (rg0 hn q)
theorem rg_gt {x : Int32} {n : Nat} (hn : n + 1 < 2 ^ 31) (h0 : 0 ≤ x) : ¬ nI n < x ↔ rg x (n + 1) := by
  rw [rg_of hn, lt_nI (by omega)]
  have := Int32.le_iff_toInt_le.mp h0
  have e : (0 : Int32).toInt = 0 := by decide
  omega
theorem ok_feed (hX : XP h w) (hM : MP h w) (V : WV w) {x : Int32} : OK2 X m_X_feed m_M_feed [.int x] h := by
  have h96 := V.2.2.2.2.1
  by_cases h0 : 0 ≤ x
  · by_cases h1 : (255 : Int32) < x
    · exact OK2.no (x := -6) 6 hX hM V (by decide) (by decide) (by decide) (by rw [e_X_feed, if_pos h0, if_pos h1, zrx6]) fun h1' H i1 i2 R => ⟨H, by rw [e_M_feed, if_pos h0, if_pos h1, zrm6, i1, i2], R, FM.rf⟩
    · by_cases h2 : wm w < 96
      · refine OK2.go (r := nI (wm w + 1)) (w' := uT w (wm w + 1) (zua (wf w) (wm w) x)) hM V (V.uT h2 ?_) ⟨_, ?_, hX.uT (h' := (zup (zup h.1 72 (wm w) x) 71 1 (nI (wm w + 1)), h.2)) ?_ ?_ ?_, ?_⟩ fun h1' H i1 i2 R => ⟨(zup (zup H.1 130 (wm w) x) 123 12 (nI (wm w + 1)), H.2), ?_, R.uT ?_ ?_ ?_ ?_, ?_⟩
        · intro j hj
          unfold zua
          by_cases q : j = wm w
          · rw [if_pos q]
            exact (rg_gt (n := 255) (by decide) h0).mp h1
          · rw [if_neg q]
            exact V.2.2.2.2.2.1 j (by omega)
        · have q := hX.2.2.2.1.1
          rw [e_X_feed, if_pos h0, if_neg h1, q, if_pos (show nI (wm w) < (96 : Int32) from nI_lt (b := 96) h2 (by omega)), e_T_append, q, s_put zc_72 (by decide) h2 (by decide), zbV_some, zbI_some]
          dsimp only
          rw [zup_eq, zup_nc (by decide), q, nI_add1]
        · dsimp only; rw [zup_eq]
        · intro j hj
          dsimp only
          rw [zup_nc (by decide)]
          by_cases q : j = wm w
          · subst q
            rw [zup_eq]
            unfold zua
            rw [if_pos rfl]
          · rw [zup_ns q, hX.2.2.2.1.2 j (by omega)]
            unfold zua
            rw [if_neg q]
        · intro b j hb h71 h72 _
          dsimp only
          rw [zup_nc h71, zup_nc h72]
        · exact FM.tr (h1 := (zup h.1 72 (wm w) x, h.2)) (FM.up (by unfold pXa; decide)) (FM.up (h := (zup h.1 72 (wm w) x, h.2)) (by unfold pXa; decide))
        · have q := R.2.2.2.1.1
          rw [e_M_feed, if_pos h0, if_neg h1, i1, q, if_neg (show ¬ nI (wm w) = (96 : Int32) from fun z => absurd ((nI_eq (b := 96) (by omega) (by decide)).mp z) (by omega)), if_pos (zin_nI h2 (by decide)), nI_clamp (by omega), zup_eq, zup_nc (by decide), q, nI_add1, i2]
        · dsimp only; rw [zup_eq]
        · intro j hj
          dsimp only
          rw [zup_nc (by decide)]
          by_cases q : j = wm w
          · subst q
            rw [zup_eq]
            unfold zua
            rw [if_pos rfl]
          · rw [zup_ns q, R.2.2.2.1.2 j (by omega)]
            unfold zua
            rw [if_neg q]
        · refine ⟨?_, ?_, fun b j h1 h2 => ?_⟩ <;> dsimp only
          · rw [zup_ns (by decide), zup_nc (by decide)]
          · rw [zup_ns (by decide), zup_nc (by decide)]
          · rw [zup_nc (by omega), zup_nc (by omega)]
        · intro b j hb h130 h12 _
          dsimp only
          unfold zup
          rw [if_neg h12, if_neg (fun z => h130 z.1)]
        · exact FM.tr (h1 := (zup H.1 130 (wm w) x, H.2)) (FM.up (by unfold pMa; decide)) (FM.up (h := (zup H.1 130 (wm w) x, H.2)) (by unfold pMa; decide))
      · have e96 : wm w = 96 := by omega
        refine OK2.no (x := -6) 6 hX hM V (by decide) (by decide) (by decide) ?_ fun h1' H i1 i2 R => ⟨H, ?_, R, FM.rf⟩
        · rw [e_X_feed, if_pos h0, if_neg h1, hX.2.2.2.1.1, e96, if_neg (by decide), zrx6]
        · rw [e_M_feed, if_pos h0, if_neg h1, i1, i2, R.2.2.2.1.1, e96, if_pos (by decide), zrm6]
  · exact OK2.no (x := -4) 4 hX hM V (by decide) (by decide) (by decide) (by rw [e_X_feed, if_neg h0, zrx4]) fun h1' H i1 i2 R => ⟨H, by rw [e_M_feed, if_neg h0, zrm4, i1, i2], R, FM.rf⟩
end zpl
