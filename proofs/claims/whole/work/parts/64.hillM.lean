/-! hill, the model: reading -/
def sdF (N : Nat) (L : zA) (k : Nat) (s : Bool × Nat) : Bool × Nat := if s.1 = true then s else (if fdF N L k s.2 = s.2 + k then (false, s.2 + k) else (true, fdF N L k s.2))
def rdN (N : Nat) (L : zA) : Nat → Nat → Nat → Nat
  | 0, _, v => v
  | m + 1, j, v => rdN N L m (j + 1) (10 * v + dnN N L j)
def pA (b j : Nat) : Prop := b = 123 ∧ (j = 13 ∨ j = 14)
def pB (k b j : Nat) : Prop := pA b j ∨ (b = 133 ∧ 4 * k ≤ j ∧ j < 4 * k + 4)
def pR (k b j : Nat) : Prop := pB k b j ∨ (b = 123 ∧ j = 15) ∨ ((b = 131 ∨ b = 132) ∧ j = k)
def MT (h : zH) (N : Nat) (L : zA) : Prop := h.1 123 12 = nI N ∧ ∀ j, j < N → h.1 130 j = L j
def STm (h : zH) (s : Bool × Nat) : Prop := h.1 123 14 = (if s.1 = true then 1 else 0) ∧ h.1 123 13 = nI s.2
theorem sdF_bad {N : Nat} {L : zA} {k j : Nat} : sdF N L k (true, j) = (true, j) := if_pos rfl
theorem sdF_s {N : Nat} {L : zA} {k j : Nat} : sdF N L (k + 1) (false, j) = if isd (ltr N L j) = true then sdF N L k (false, j + 1) else (true, j) := by
  unfold sdF
  rw [if_neg hFT, if_neg hFT, fdF_s]
  dsimp only
  by_cases h : isd (ltr N L j) = true
  · rw [if_pos h, if_pos h, show j + (k + 1) = j + 1 + k by omega]
  · rw [if_neg h, if_neg h, if_neg (by omega)]
theorem sdF_add {N : Nat} {L : zA} {b : Nat} : ∀ (a : Nat) (s : Bool × Nat), sdF N L (a + b) s = sdF N L b (sdF N L a s) := by
  intro a
  rintro ⟨f, j⟩
  cases f
  · unfold sdF
    rw [if_neg hFT, if_neg hFT, fdF_add]
    dsimp only
    by_cases h : fdF N L a j = j + a
    · rw [if_pos h, if_pos h, if_neg hFT]
      dsimp only
      rw [show j + (a + b) = j + a + b by omega]
    · rw [if_neg h, if_neg h, if_pos rfl]
      have := (@fdF_le N L a j).2.1
      rw [if_neg (by omega)]
  · rw [sdF_bad, sdF_bad, sdF_bad]
theorem sdF_le {N : Nat} {L : zA} {k : Nat} {s : Bool × Nat} (h : s.2 ≤ N) : (sdF N L k s).2 ≤ N := by
  unfold sdF
  have := (@fdF_le N L k s.2).2.2 h
  split
  · exact h
  · split
    · dsimp only; omega
    · exact this
theorem sdF_ok {N : Nat} {L : zA} {k j : Nat} (h : (sdF N L k (false, j)).1 = false) : fdF N L k j = j + k ∧ sdF N L k (false, j) = (false, j + k) := by
  unfold sdF at h ⊢
  rw [if_neg hFT] at h ⊢
  dsimp only at h ⊢
  by_cases q : fdF N L k j = j + k
  · rw [if_pos q]; exact ⟨q, rfl⟩
  · rw [if_neg q] at h; exact absurd (show true = false from h) hTF
theorem sdF_ok1 {N : Nat} {L : zA} {k : Nat} {s : Bool × Nat} (h : (sdF N L k s).1 = false) : s.1 = false := by
  obtain ⟨b, j⟩ := s
  cases b
  · rfl
  · rw [sdF_bad] at h; exact absurd (show true = false from h) hTF
section z64
variable {X : zX} {h h0 : zH} {w : zW} {N : Nat} {L : zA}
theorem zr1 {I : Nat → Nat → Int32} {v : Int32} : zup I 123 14 v 123 13 = I 123 13 := zup_ns (by decide)
theorem zr2 {I : Nat → Nat → Int32} {v : Int32} : zup I 123 14 v 123 15 = I 123 15 := zup_ns (by decide)
theorem zr3 {I : Nat → Nat → Int32} {v : Int32} : zup I 123 13 v 123 14 = I 123 14 := zup_ns (by decide)
theorem zr4 {I : Nat → Nat → Int32} {v : Int32} : zup I 123 13 v 123 15 = I 123 15 := zup_ns (by decide)
theorem zr5 {I : Nat → Nat → Int32} {j i : Nat} {v : Int32} : zup I 131 j v 123 i = I 123 i := zup_nc (by decide)
theorem zr6 {I : Nat → Nat → Int32} {j i : Nat} {v : Int32} : zup I 132 j v 123 i = I 123 i := zup_nc (by decide)
theorem zr7 {I : Nat → Nat → Int32} {j i : Nat} {v : Int32} : zup I 133 j v 123 i = I 123 i := zup_nc (by decide)
theorem zr8 {I : Nat → Nat → Int32} {j i : Nat} {v : Int32} : zup I 123 j v 130 i = I 130 i := zup_nc (by decide)
theorem zr9 {I : Nat → Nat → Int32} {v : Int32} : zup I 123 15 v 123 13 = I 123 13 := zup_ns (by decide)
theorem zr10 {I : Nat → Nat → Int32} {v : Int32} : zup I 123 15 v 123 14 = I 123 14 := zup_ns (by decide)
theorem e10F : ((1 : Int32) = 0) = False := eq_false (by decide)
theorem e00T : ((0 : Int32) = 0) = True := eq_true rfl
theorem MT.fm (T : MT h N L) {P : Nat → Nat → Prop} {h' : zH} (F : FM P h h') (hP : ∀ b j, P b j → b ≠ 130 ∧ ¬ (b = 123 ∧ j = 12)) : MT h' N L := ⟨(F 123 12 (fun z => (hP _ _ z).2 ⟨rfl, rfl⟩)).trans T.1, fun j hj => (F 130 j (fun z => (hP _ _ z).1 rfl)).trans (T.2 j hj)⟩
theorem m_here (T : MT h N L) (hN : N ≤ 96) {j : Nat} (hj : j ≤ N) (h13 : h.1 123 13 = nI j) : zcf X m_M_here [.ref 123] h = some (some (.int (ltr N L j)), h) := by
  rw [e_M_here, T.1, h13]
  by_cases q : j < N
  · rw [if_neg (nI_ge (by omega) (by omega)), if_pos (zin_nI (by omega) (by decide)), nI_clamp (by omega), T.2 j q, ltr_in q]
  · rw [if_pos (nI_le (by omega) (by omega)), ltr_out q]
theorem m_rdF (hN : N ≤ 96) {K : Nat} (hK : K ≤ 2) : ∀ (m c v : Nat) (s : Bool × Nat) (h : zH), c + m = K → MT h N L → STm h s → s.2 ≤ N → ∃ h' r, zrn X 1 m_M_readDigits 4 [some (.ref 123), some (.int (nI K)), some (.int (nI v)), some (.int (nI c))] [] h = some (some (.int r), h') ∧ FM pA h h' ∧ STm h' (sdF N L m s) ∧ ((sdF N L m s).1 = false → r = nI (rdN N L m s.2 v)) := by
  intro m
  induction m with
  | zero =>
    rintro c v ⟨b, j⟩ h hc T S hs
    refine ⟨h, nI v, ?_, FM.rf, ?_, fun _ => rfl⟩
    · rw [b_M_readDigits_4, if_pos (nI_le (by omega) (by omega))]
    · have : sdF N L 0 (b, j) = (b, j) := by
        unfold sdF
        cases b
        · rw [if_neg hFT]; exact if_pos rfl
        · exact if_pos rfl
      rw [this]
      exact S
  | succ m ih =>
    rintro c v ⟨b, j⟩ h hc T ⟨h14, h13⟩ hs
    dsimp only at h14 h13 hs
    have bad : ∃ h' r, zrn X 1 m_M_readDigits 4 [some (.ref 123), some (.int (nI K)), some (.int 0), some (.int (nI (c + 1)))] [] (zup (zup h.1 123 14 1) 123 13 (nI j), h.2) = some (some (.int r), h') ∧ FM pA h h' ∧ STm h' (true, j) := by
      have F : FM pA h (zup (zup h.1 123 14 1) 123 13 (nI j), h.2) := FM.tr (h1 := (zup h.1 123 14 1, h.2)) (FM.up (by unfold pA; decide)) (FM.up (h := (zup h.1 123 14 1, h.2)) (by unfold pA; decide))
      obtain ⟨h', r, a1, a2, a3, -⟩ := ih (c + 1) 0 (true, j) (zup (zup h.1 123 14 1) 123 13 (nI j), h.2) (by omega) (T.fm F fun b j z => by unfold pA at z; omega) ⟨by dsimp only; rw [zr3, zup_eq, if_pos rfl], by dsimp only; rw [zup_eq]⟩ hs
      rw [sdF_bad] at a3
      exact ⟨h', r, a1, F.tr a2, a3⟩
    cases b
    · rw [if_neg hFT] at h14
      rw [sdF_s, b_M_readDigits_4, if_neg (nI_ge (by omega) (by omega)), if_pos h14, m_here T hN hs h13, zbI_some, m_inI (L := 48) (U := 57) (by decide) (by decide), zbI_some]
      by_cases d : isd (ltr N L j) = true
      · have d' : 48 ≤ (ltr N L j).toInt ∧ (ltr N L j).toInt ≤ 57 := of_decide_eq_true d
        obtain ⟨e1, e2, e3, e4⟩ := isd_dn d
        simp only [if_pos d', e10F, if_false, zup_eq, e00T, if_true, zr1, zr8, h13, nI_clamp (show j < 2 ^ 31 by omega), zin_nI (show j < 96 by omega) (show 96 < 2 ^ 31 by decide), T.2 j e1, nI_add1, if_pos d]
        have ev : 10 * nI v + L j - 48 = nI (10 * v + dnN N L j) := by
          rw [Int32.sub_eq_add_neg, Int32.add_assoc, ← Int32.sub_eq_add_neg, e3, show (10 : Int32) = nI 10 from rfl, nI_mul, nI_add]
        rw [ev]
        have F : FM pA h (zup (zup h.1 123 14 0) 123 13 (nI (j + 1)), h.2) := FM.tr (h1 := (zup h.1 123 14 0, h.2)) (FM.up (by unfold pA; decide)) (FM.up (h := (zup h.1 123 14 0, h.2)) (by unfold pA; decide))
        obtain ⟨h', r, a1, a2, a3, a4⟩ := ih (c + 1) (10 * v + dnN N L j) (false, j + 1) (zup (zup h.1 123 14 0) 123 13 (nI (j + 1)), h.2) (by omega) (T.fm F fun b j z => by unfold pA at z; omega) ⟨by dsimp only; rw [zr3, zup_eq, if_neg hFT], by dsimp only; rw [zup_eq]⟩ e1
        exact ⟨h', r, a1, F.tr a2, a3, a4⟩
      · have d' : ¬ (48 ≤ (ltr N L j).toInt ∧ (ltr N L j).toInt ≤ 57) := fun z => d (decide_eq_true z)
        simp only [if_neg d', e00T, if_true, zup_eq, e10F, if_false, zr1, h13, nI_add1, Int32.add_zero, if_neg d]
        obtain ⟨h', r, a1, a2, a3⟩ := bad
        exact ⟨h', r, a1, a2, a3, fun z => absurd z (by decide)⟩
    · rw [if_pos rfl] at h14
      rw [sdF_bad, b_M_readDigits_4, if_neg (nI_ge (by omega) (by omega)), h14, if_neg (show ¬ (1 : Int32) = 0 by decide)]
      simp only [zup_eq, e10F, if_false, zr1, h13, nI_add1, Int32.add_zero]
      obtain ⟨h', r, a1, a2, a3⟩ := bad
      exact ⟨h', r, a1, a2, a3, fun z => absurd z (by decide)⟩
theorem m_rd (hN : N ≤ 96) {K : Nat} (hK : K ≤ 2) {s : Bool × Nat} (T : MT h N L) (S : STm h s) (hs : s.2 ≤ N) : ∃ h' r, zcf X m_M_readDigits [.ref 123, .int (nI K)] h = some (some (.int r), h') ∧ FM pA h h' ∧ STm h' (sdF N L K s) ∧ ((sdF N L K s).1 = false → r = nI (rdN N L K s.2 0)) := by
  rw [e_M_readDigits]
  exact m_rdF hN hK K 0 0 s h (Nat.zero_add _) T S hs
/-- what is told of a statement that is read -/
def TD (h : zH) (N : Nat) (L : zA) (k i : Nat) : Prop := h.1 131 k = nI i ∧ h.1 132 k = ltr N L i ∧ h.1 133 (4 * k) = nI (if ltr N L i = 110 then 10 * dnN N L (i + 1) + dnN N L (i + 2) else dnN N L (i + 1)) ∧ (ltr N L i = 99 → h.1 133 (4 * k + 1) = nI (10 * dnN N L (i + 2) + dnN N L (i + 3))) ∧ (ltr N L i = 102 → h.1 133 (4 * k + 1) = nI (dnN N L (i + 2))) ∧ (ltr N L i = 112 → h.1 133 (4 * k + 1) = nI (dnN N L (i + 2)) ∧ h.1 133 (4 * k + 2) = nI (10 * dnN N L (i + 3) + dnN N L (i + 4)) ∧ h.1 133 (4 * k + 3) = nI (dnN N L (i + 5)))
/-- the numbers alone -/
def TV (h : zH) (N : Nat) (L : zA) (k i : Nat) : Prop := h.1 133 (4 * k) = nI (if ltr N L i = 110 then 10 * dnN N L (i + 1) + dnN N L (i + 2) else dnN N L (i + 1)) ∧ (ltr N L i = 99 → h.1 133 (4 * k + 1) = nI (10 * dnN N L (i + 2) + dnN N L (i + 3))) ∧ (ltr N L i = 102 → h.1 133 (4 * k + 1) = nI (dnN N L (i + 2))) ∧ (ltr N L i = 112 → h.1 133 (4 * k + 1) = nI (dnN N L (i + 2)) ∧ h.1 133 (4 * k + 2) = nI (10 * dnN N L (i + 3) + dnN N L (i + 4)) ∧ h.1 133 (4 * k + 3) = nI (dnN N L (i + 5)))
theorem STm.up {s : Bool × Nat} (S : STm h s) {j : Nat} {v : Int32} : STm (zup h.1 133 j v, h.2) s := ⟨by dsimp only; rw [zr7]; exact S.1, by dsimp only; rw [zr7]; exact S.2⟩
theorem MT.up (T : MT h N L) {j : Nat} {v : Int32} : MT (zup h.1 133 j v, h.2) N L := ⟨by dsimp only; rw [zr7]; exact T.1, fun q hq => by dsimp only; rw [zup_nc (by decide)]; exact T.2 q hq⟩
theorem mt_pA (T : MT h N L) {h' : zH} (F : FM pA h h') : MT h' N L := T.fm F fun b j z => by unfold pA at z; omega
theorem pA_B {k b j : Nat} (z : pA b j) : pB k b j := Or.inl z
theorem m_readNumbers (hN : N ≤ 96) {i k : Nat} (hk : k < 49) (hd : dgN (ltr N L i) ≠ 0) (T : MT h N L) (S : STm h (false, i + 1)) (hs : i + 1 ≤ N) : ∃ h', zcf X m_M_readNumbers [.ref 123, .int (ltr N L i), .int (nI (4 * k))] h = some (none, h') ∧ FM (pB k) h h' ∧ STm h' (sdF N L (dgN (ltr N L i)) (false, i + 1)) ∧ ((sdF N L (dgN (ltr N L i)) (false, i + 1)).1 = false → TV h' N L k i) := by
  have z0 : zin (nI (4 * k)) 196 = true := zin_nI (by omega) (by decide)
  have z1 : zin (nI (4 * k + 1)) 196 = true := zin_nI (by omega) (by decide)
  have z2 : zin (nI (4 * k + 2)) 196 = true := zin_nI (by omega) (by decide)
  have z3 : zin (nI (4 * k + 3)) 196 = true := zin_nI (by omega) (by decide)
  have u : ∀ {h1 : zH} {d : Nat} {v : Int32}, d < 4 → FM (pB k) h1 (zup h1.1 133 (4 * k + d) v, h1.2) := fun hd => FM.up (Or.inr ⟨rfl, by omega, by omega⟩)
  rw [e_M_readNumbers]
  rcases dgN_v hd with ⟨c, d⟩ | ⟨c, d⟩ | ⟨c, d⟩ | ⟨c, d⟩
  · obtain ⟨h1, r1, a1, a2, a3, a4⟩ := m_rd (X := X) hN (K := 1) (by decide) T S hs
    obtain ⟨h2, r2, b1, b2, b3, b4⟩ := m_rd (X := X) hN (K := 2) (by decide) (mt_pA T a2).up (STm.up a3 (j := 4 * k) (v := r1)) (sdF_le hs)
    rw [← sdF_add, show 1 + 2 = 3 from rfl] at b3 b4
    refine ⟨(zup h2.1 133 (4 * k + 1) r2, h2.2), ?_, ?_, by rw [d]; exact b3.up, fun z => ?_⟩
    · rw [c, if_neg (show ¬ (99 : Int32) = 110 by decide), show zcf X m_M_readDigits [.ref 123, .int 1] h = _ from a1, zbI_some, if_pos z0, nI_clamp (by omega), if_neg (show ¬ (99 : Int32) = 112 by decide), if_neg (show ¬ (99 : Int32) = 110 by decide), if_neg (show ¬ (99 : Int32) = 102 by decide), show zcf X m_M_readDigits [.ref 123, .int 2] (zup h1.1 133 (4 * k) r1, h1.2) = _ from b1, zbI_some, nI_add1, if_pos z1, nI_clamp (by omega)]
    · exact (a2.mono fun _ _ => pA_B).tr ((u (d := 0) (by decide)).tr ((b2.mono fun _ _ => pA_B).tr (u (by decide))))
    · rw [d] at z
      have e2 := b4 z
      obtain ⟨-, f2⟩ := sdF_ok z
      have e1s : (sdF N L 1 (false, i + 1)).1 = false := by
        have : (sdF N L 2 (sdF N L 1 (false, i + 1))).1 = false := by rw [← sdF_add]; exact z
        exact sdF_ok1 this
      have e1 := a4 e1s
      have p1 := (sdF_ok e1s).2
      rw [p1] at e2
      unfold TV
      rw [c, if_neg (show ¬ (99 : Int32) = 110 by decide)]
      dsimp only
      refine ⟨?_, fun _ => ?_, fun q => absurd q (by decide), fun q => absurd q (by decide)⟩
      · rw [zup_ns (by omega), b2 133 (4 * k) (by unfold pA; omega)]
        dsimp only
        rw [zup_eq, e1]
        show nI (10 * 0 + dnN N L (i + 1)) = _
        rw [Nat.mul_zero, Nat.zero_add]
      · rw [zup_eq, e2]
        show nI (10 * (10 * 0 + dnN N L (i + 1 + 1)) + dnN N L (i + 1 + 1 + 1)) = _
        rw [Nat.mul_zero, Nat.zero_add]
  · obtain ⟨h1, r1, a1, a2, a3, a4⟩ := m_rd (X := X) hN (K := 1) (by decide) T S hs
    obtain ⟨h2, r2, b1, b2, b3, b4⟩ := m_rd (X := X) hN (K := 1) (by decide) (mt_pA T a2).up (STm.up a3 (j := 4 * k) (v := r1)) (sdF_le hs)
    rw [← sdF_add, show 1 + 1 = 2 from rfl] at b3 b4
    refine ⟨(zup h2.1 133 (4 * k + 1) r2, h2.2), ?_, ?_, by rw [d]; exact b3.up, fun z => ?_⟩
    · rw [c, if_neg (show ¬ (102 : Int32) = 110 by decide), show zcf X m_M_readDigits [.ref 123, .int 1] h = _ from a1, zbI_some, if_pos z0, nI_clamp (by omega), if_neg (show ¬ (102 : Int32) = 112 by decide), if_neg (show ¬ (102 : Int32) = 110 by decide), if_pos (show (102 : Int32) = 102 from rfl), show zcf X m_M_readDigits [.ref 123, .int 1] (zup h1.1 133 (4 * k) r1, h1.2) = _ from b1, zbI_some, nI_add1, if_pos z1, nI_clamp (by omega)]
    · exact (a2.mono fun _ _ => pA_B).tr ((u (d := 0) (by decide)).tr ((b2.mono fun _ _ => pA_B).tr (u (by decide))))
    · rw [d] at z
      have e2 := b4 z
      have e1s : (sdF N L 1 (false, i + 1)).1 = false := by
        have : (sdF N L 1 (sdF N L 1 (false, i + 1))).1 = false := by rw [← sdF_add]; exact z
        exact sdF_ok1 this
      have e1 := a4 e1s
      have p1 := (sdF_ok e1s).2
      rw [p1] at e2
      unfold TV
      rw [c, if_neg (show ¬ (102 : Int32) = 110 by decide)]
      dsimp only
      refine ⟨?_, fun q => absurd q (by decide), fun _ => ?_, fun q => absurd q (by decide)⟩
      · rw [zup_ns (by omega), b2 133 (4 * k) (by unfold pA; omega)]
        dsimp only
        rw [zup_eq, e1]
        show nI (10 * 0 + dnN N L (i + 1)) = _
        rw [Nat.mul_zero, Nat.zero_add]
      · rw [zup_eq, e2]
        show nI (10 * 0 + dnN N L (i + 1 + 1)) = _
        rw [Nat.mul_zero, Nat.zero_add]
  · obtain ⟨h1, r1, a1, a2, a3, a4⟩ := m_rd (X := X) hN (K := 2) (by decide) T S hs
    refine ⟨(zup h1.1 133 (4 * k) r1, h1.2), ?_, ?_, by rw [d]; exact a3.up, fun z => ?_⟩
    · rw [c, if_pos (show (110 : Int32) = 110 from rfl), show zcf X m_M_readDigits [.ref 123, .int 2] h = _ from a1, zbI_some, if_pos z0, nI_clamp (by omega), if_neg (show ¬ (110 : Int32) = 112 by decide), if_pos (show (110 : Int32) = 110 from rfl)]
    · exact (a2.mono fun _ _ => pA_B).tr (u (d := 0) (by decide))
    · rw [d] at z
      have e1 := a4 z
      unfold TV
      rw [c, if_pos (show (110 : Int32) = 110 from rfl)]
      dsimp only
      refine ⟨?_, fun q => absurd q (by decide), fun q => absurd q (by decide), fun q => absurd q (by decide)⟩
      rw [zup_eq, e1]
      show nI (10 * (10 * 0 + dnN N L (i + 1)) + dnN N L (i + 1 + 1)) = _
      rw [Nat.mul_zero, Nat.zero_add]
  · obtain ⟨h1, r1, a1, a2, a3, a4⟩ := m_rd (X := X) hN (K := 1) (by decide) T S hs
    obtain ⟨h2, r2, b1, b2, b3, b4⟩ := m_rd (X := X) hN (K := 1) (by decide) (mt_pA T a2).up (STm.up a3 (j := 4 * k) (v := r1)) (sdF_le hs)
    have T2 := mt_pA ((mt_pA T a2).up (j := 4 * k) (v := r1)) b2
    obtain ⟨h3, r3, c1, c2, c3, c4⟩ := m_rd (X := X) hN (K := 2) (by decide) T2.up (STm.up b3 (j := 4 * k + 1) (v := r2)) (sdF_le (sdF_le hs))
    have T3 := mt_pA (T2.up (j := 4 * k + 1) (v := r2)) c2
    obtain ⟨h4, r4, d1, d2, d3, d4⟩ := m_rd (X := X) hN (K := 1) (by decide) T3.up (STm.up c3 (j := 4 * k + 2) (v := r3)) (sdF_le (sdF_le (sdF_le hs)))
    have e5 : sdF N L 1 (sdF N L 2 (sdF N L 1 (sdF N L 1 (false, i + 1)))) = sdF N L 5 (false, i + 1) := by rw [← sdF_add, ← sdF_add, ← sdF_add]
    refine ⟨(zup h4.1 133 (4 * k + 3) r4, h4.2), ?_, ?_, by rw [d, ← e5]; exact d3.up, fun z => ?_⟩
    · rw [c, if_neg (show ¬ (112 : Int32) = 110 by decide), show zcf X m_M_readDigits [.ref 123, .int 1] h = _ from a1, zbI_some, if_pos z0, nI_clamp (by omega), if_pos (show (112 : Int32) = 112 from rfl), show zcf X m_M_readDigits [.ref 123, .int 1] (zup h1.1 133 (4 * k) r1, h1.2) = _ from b1, zbI_some, nI_add1, if_pos z1, nI_clamp (by omega), show zcf X m_M_readDigits [.ref 123, .int 2] (zup h2.1 133 (4 * k + 1) r2, h2.2) = _ from c1, zbI_some, nI_a2, if_pos z2, nI_clamp (by omega), show zcf X m_M_readDigits [.ref 123, .int 1] (zup h3.1 133 (4 * k + 2) r3, h3.2) = _ from d1, zbI_some, nI_a3, if_pos z3, nI_clamp (by omega)]
    · exact (a2.mono fun _ _ => pA_B).tr ((u (d := 0) (by decide)).tr ((b2.mono fun _ _ => pA_B).tr ((u (by decide)).tr ((c2.mono fun _ _ => pA_B).tr ((u (by decide)).tr ((d2.mono fun _ _ => pA_B).tr (u (by decide))))))))
    · rw [d, ← e5] at z
      have s3 := sdF_ok1 z
      have s2 := sdF_ok1 s3
      have s1 := sdF_ok1 s2
      have p1 := (sdF_ok s1).2
      rw [p1] at s2 s3 z b4 c4 d4
      have p2 := (sdF_ok s2).2
      rw [p2] at s3 z c4 d4
      have p3 := (sdF_ok s3).2
      rw [p3] at z d4
      have e1 := a4 s1
      have e2 := b4 s2
      have e3 := c4 s3
      have e4 := d4 z
      unfold TV
      rw [c, if_neg (show ¬ (112 : Int32) = 110 by decide)]
      dsimp only
      refine ⟨?_, fun q => absurd q (by decide), fun q => absurd q (by decide), fun _ => ⟨?_, ?_, ?_⟩⟩
      · rw [zup_ns (by omega), d2 133 (4 * k) (by unfold pA; omega)]
        dsimp only
        rw [zup_ns (by omega), c2 133 (4 * k) (by unfold pA; omega)]
        dsimp only
        rw [zup_ns (by omega), b2 133 (4 * k) (by unfold pA; omega)]
        dsimp only
        rw [zup_eq, e1]
        show nI (10 * 0 + dnN N L (i + 1)) = _
        rw [Nat.mul_zero, Nat.zero_add]
      · rw [zup_ns (by omega), d2 133 (4 * k + 1) (by unfold pA; omega)]
        dsimp only
        rw [zup_ns (by omega), c2 133 (4 * k + 1) (by unfold pA; omega)]
        dsimp only
        rw [zup_eq, e2]
        show nI (10 * 0 + dnN N L (i + 1 + 1)) = _
        rw [Nat.mul_zero, Nat.zero_add]
      · rw [zup_ns (by omega), d2 133 (4 * k + 2) (by unfold pA; omega)]
        dsimp only
        rw [zup_eq, e3]
        show nI (10 * (10 * 0 + dnN N L (i + 1 + 1 + 1)) + dnN N L (i + 1 + 1 + 1 + 1)) = _
        rw [Nat.mul_zero, Nat.zero_add]
      · rw [zup_eq, e4]
        show nI (10 * 0 + dnN N L (i + 1 + 1 + 1 + 2)) = _
        rw [Nat.mul_zero, Nat.zero_add]
end z64
