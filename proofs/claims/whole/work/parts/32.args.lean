/-! arguments, and what is thought and put back -/
theorem rg_of {x : Int32} {n : Nat} (hn : n < 2 ^ 31) : rg x n ↔ 0 ≤ x.toInt ∧ x.toInt < n := by
  constructor
  · rintro ⟨j, hj, rfl⟩
    rw [nI_toInt (by omega)]
    omega
  · rintro ⟨h1, h2⟩
    refine ⟨x.toInt.toNat, by omega, ?_⟩
    refine Int32.toInt_inj.mp ?_
    rw [nI_toInt (by omega)]
    omega
theorem lt0_iff {x : Int32} : x < 0 ↔ x.toInt < 0 := Int32.lt_iff_toInt_lt
theorem le_nI {x : Int32} {n : Nat} (hn : n < 2 ^ 31) : nI n ≤ x ↔ (n : Int) ≤ x.toInt := by rw [Int32.le_iff_toInt_le, nI_toInt hn]
theorem nI_le' {x : Int32} {n : Nat} (hn : n < 2 ^ 31) : x ≤ nI n ↔ x.toInt ≤ n := by rw [Int32.le_iff_toInt_le, nI_toInt hn]
theorem lt_nI {x : Int32} {n : Nat} (hn : n < 2 ^ 31) : nI n < x ↔ (n : Int) < x.toInt := by rw [Int32.lt_iff_toInt_lt, nI_toInt hn]
theorem nI_lt' {x : Int32} {n : Nat} (hn : n < 2 ^ 31) : x < nI n ↔ x.toInt < n := by rw [Int32.lt_iff_toInt_lt, nI_toInt hn]
section zargs
variable {X : zX} {h : zH} {a : Nat} {t : zT} {w : zW} {x y z : Int32}
theorem s_has1 (H : isH a) (R : HR h a t) (hn : tn t ≤ 6) {p : Nat} (hp : p < tn t) : zcf X m_H_has [.ref a, .int (nI p)] h = some (some (.int 1), h) := by
  rw [e_H_has H, if_neg (nI_pos (by omega)), R.1, if_neg (nI_ge hp (by omega))]
theorem s_has0 (H : isH a) (R : HR h a t) (hn : tn t ≤ 6) (hx : ¬ rg x (tn t)) : zcf X m_H_has [.ref a, .int x] h = some (some (.int 0), h) := by
  rw [e_H_has H, R.1]
  by_cases h0 : x < 0
  · rw [if_pos h0]
  · rw [if_neg h0, if_pos]
    rw [le_nI (by omega)]
    rw [rg_of (by omega)] at hx
    rw [lt0_iff] at h0
    omega
theorem m_inI {lo hi : Int64} {L U : Int} (h1 : lo.toInt = L) (h2 : hi.toInt = U) : zcf X m_M_in [.long (Int32.toInt64 x), .long lo, .long hi] h = some (some (.int (if L ≤ x.toInt ∧ x.toInt ≤ U then 1 else 0)), h) := by
  rw [m_in]
  have e1 : lo ≤ Int32.toInt64 x ↔ L ≤ x.toInt := by rw [Int64.le_iff_toInt_le, h1, Int32.toInt_toInt64]
  have e2 : Int32.toInt64 x ≤ hi ↔ x.toInt ≤ U := by rw [Int64.le_iff_toInt_le, h2, Int32.toInt_toInt64]
  by_cases q : L ≤ x.toInt ∧ x.toInt ≤ U
  · rw [if_pos q, if_pos ⟨e1.mpr q.1, e2.mpr q.2⟩]
  · rw [if_neg q, if_neg (fun z => q ⟨e1.mp z.1, e2.mp z.2⟩)]
theorem nI_m1 : ∀ n, n < 7 → (nI n - 1).toInt = (n : Int) - 1 := by decide
theorem m_isOne1 (R : MR h t) (hn : tn t ≤ 6) {p : Nat} (hp : p < tn t) : zcf X m_M_isOne [.ref 123, .int (nI p)] h = some (some (.int 1), h) := by
  rw [e_M_isOne, R.1, m_inI (L := 0) (U := (tn t : Int) - 1) (by decide) (by rw [Int32.toInt_toInt64]; exact nI_m1 _ (by omega)), zbI_some, nI_toInt (by omega), if_pos (show (0 : Int) ≤ (p : Int) ∧ (p : Int) ≤ (tn t : Int) - 1 by omega), if_pos (Or.inr rfl)]
theorem m_isOne0 (R : MR h t) (hn : tn t ≤ 6) (hx : ¬ rg x (tn t)) : zcf X m_M_isOne [.ref 123, .int x] h = some (some (.int 0), h) := by
  rw [rg_of (by omega)] at hx
  rw [e_M_isOne, R.1, m_inI (L := 0) (U := (tn t : Int) - 1) (by decide) (by rw [Int32.toInt_toInt64]; exact nI_m1 _ (by omega)), zbI_some, if_neg (show ¬ ((0 : Int) ≤ x.toInt ∧ x.toInt ≤ (tn t : Int) - 1) by omega), if_pos (Or.inl rfl)]
theorem m_isCell1 (hx : rg x 36) : zcf X m_M_isCell [.int x] h = some (some (.int 1), h) := by
  rw [rg_of (by decide)] at hx
  rw [e_M_isCell, m_inI (L := 0) (U := 35) (by decide) (by decide), zbI_some, if_pos (show (0 : Int) ≤ x.toInt ∧ x.toInt ≤ 35 by omega), if_pos (Or.inr rfl)]
theorem m_isCell0 (hx : ¬ rg x 36) : zcf X m_M_isCell [.int x] h = some (some (.int 0), h) := by
  rw [rg_of (by decide)] at hx
  rw [e_M_isCell, m_inI (L := 0) (U := 35) (by decide) (by decide), zbI_some, if_neg (show ¬ ((0 : Int) ≤ x.toInt ∧ x.toInt ≤ 35) by omega), if_pos (Or.inl rfl)]
theorem s_isX {m : zM} {n : Nat} (hn : n < 2 ^ 31) (e : ∀ x, zcf X m [.int x] h = if x < 0 then some (some (.int 0), h) else (if nI n ≤ x then some (some (.int 0), h) else some (some (.int 1), h))) : (rg x n → zcf X m [.int x] h = some (some (.int 1), h)) ∧ (¬ rg x n → zcf X m [.int x] h = some (some (.int 0), h)) := by
  rw [rg_of hn, e]
  have e1 := @lt0_iff x
  have e2 := @le_nI x n hn
  by_cases h0 : x < 0
  · rw [if_pos h0]
    exact ⟨fun q => absurd (e1.mp h0) (by omega), fun _ => rfl⟩
  · rw [if_neg h0]
    by_cases h1 : nI n ≤ x
    · rw [if_pos h1]
      exact ⟨fun q => absurd (e2.mp h1) (by omega), fun _ => rfl⟩
    · rw [if_neg h1]
      refine ⟨fun _ => rfl, fun q => absurd ?_ q⟩
      have a1 : ¬ x.toInt < 0 := fun z => h0 (e1.mpr z)
      have a2 : ¬ (n : Int) ≤ x.toInt := fun z => h1 (e2.mpr z)
      omega
theorem s_isKind : (rg x 6 → zcf X m_X_isKind [.int x] h = some (some (.int 1), h)) ∧ (¬ rg x 6 → zcf X m_X_isKind [.int x] h = some (some (.int 0), h)) := s_isX (by decide) (fun _ => e_X_isKind)
theorem s_isCell : (rg x 36 → zcf X m_X_isCell [.int x] h = some (some (.int 1), h)) ∧ (¬ rg x 36 → zcf X m_X_isCell [.int x] h = some (some (.int 0), h)) := s_isX (by decide) (fun _ => e_X_isCell)
theorem s_isWay : (rg x 4 → zcf X m_X_isWay [.int x] h = some (some (.int 1), h)) ∧ (¬ rg x 4 → zcf X m_X_isWay [.int x] h = some (some (.int 0), h)) := s_isX (by decide) (fun _ => e_X_isWay)
/-- the faults of a question of one and a number of what (0 .. last) -/
noncomputable def eW (n : Nat) (x y : Int32) (last : Nat) : Int32 := @ite _ (rg x n) (Classical.propDecidable _) (@ite _ (rg y (last + 1)) (Classical.propDecidable _) 0 (-2)) (-1)
theorem s_wrongWhat (R : XP h w) (V : WV w) {last : Nat} (hl : last < 10) : zcf X m_X_wrongWhat [.ref 1, .int x, .int y, .int (nI last)] h = some (some (.int (eW (tn (wt w)) x y last)), h) := by
  have h6 := V.1.1.1
  rw [e_X_wrongWhat]
  unfold eW
  by_cases hx : rg x (tn (wt w))
  · rw [if_pos hx]
    obtain ⟨p, hp, rfl⟩ := hx
    rw [s_has1 hH_2 R.1.1 h6 hp, zbI_some, if_neg (by decide)]
    have e1 := @lt0_iff y
    have e2 := @nI_le' y last (by omega)
    by_cases hy : rg y (last + 1)
    · rw [if_pos hy]
      rw [rg_of (by omega)] at hy
      rw [if_neg (fun z => absurd (e1.mp z) (by omega)), if_pos (e2.mpr (by omega))]
    · rw [if_neg hy]
      rw [rg_of (by omega)] at hy
      by_cases h0 : y < 0
      · rw [if_pos h0]
      · rw [if_neg h0, if_neg]
        intro z
        have a2 := e2.mp z
        have a1 : ¬ y.toInt < 0 := fun z => h0 (e1.mpr z)
        omega
  · rw [if_neg hx, s_has0 hH_2 R.1.1 h6 hx, zbI_some, if_pos rfl]
theorem m_wrongBit {last : Nat} (hl : last < 10) : zcf X m_M_wrongBit [.int x, .int y, .int (nI last)] h = some (some (.int (@ite _ (x = 0 ∧ ¬ rg y (last + 1)) (Classical.propDecidable _) (-2) x)), h) := by
  rw [e_M_wrongBit]
  by_cases hx : x = 0
  · have hU : (Int32.toInt64 (nI last)).toInt = (last : Int) := by rw [Int32.toInt_toInt64, nI_toInt (by omega)]
    rw [if_pos hx, m_inI (L := 0) (U := (last : Int)) (by decide) hU, zbI_some]
    by_cases hy : rg y (last + 1)
    · have hy2 := (rg_of (show last + 1 < 2 ^ 31 by omega)).mp hy
      rw [if_pos (show (0 : Int) ≤ y.toInt ∧ y.toInt ≤ (last : Int) by omega), if_neg (by decide), if_neg (fun z => z.2 hy)]
    · have hy2 := fun z => hy ((rg_of (show last + 1 < 2 ^ 31 by omega)).mpr z)
      rw [if_neg (show ¬ ((0 : Int) ≤ y.toInt ∧ y.toInt ≤ (last : Int)) from fun z => hy2 (by omega)), if_pos rfl, if_pos ⟨hx, hy⟩]
  · rw [if_neg hx, if_neg (fun z => hx z.1)]
theorem s_areTwo (R : XP h w) (V : WV w) : zcf X m_X_areTwo [.ref 1, .int x, .int y] h = some (some (.int (@ite _ (rg x (tn (wt w)) ∧ rg y (tn (wt w)) ∧ x ≠ y) (Classical.propDecidable _) 1 0)), h) := by
  have h6 := V.1.1.1
  rw [e_X_areTwo]
  by_cases hx : rg x (tn (wt w))
  · obtain ⟨p, hp, rfl⟩ := id hx
    rw [s_has1 hH_2 R.1.1 h6 hp, zbI_some, if_neg (by decide)]
    by_cases hy : rg y (tn (wt w))
    · obtain ⟨q, hq, rfl⟩ := id hy
      rw [s_has1 hH_2 R.1.1 h6 hq, zbI_some, if_neg (by decide)]
      by_cases he : nI p = nI q
      · rw [if_pos he, if_neg (fun z => z.2.2 he)]
      · rw [if_neg he, if_pos ⟨hx, hy, he⟩]
    · rw [s_has0 hH_2 R.1.1 h6 hy, zbI_some, if_pos rfl, if_neg (fun z => hy z.2.1)]
  · rw [s_has0 hH_2 R.1.1 h6 hx, zbI_some, if_pos rfl, if_neg (fun z => hx z.1)]
theorem m_areTwo (R : MR h t) (hn : tn t ≤ 6) : zcf X m_M_areTwo [.ref 123, .int x, .int y] h = some (some (.int (@ite _ (rg x (tn t) ∧ rg y (tn t) ∧ x ≠ y) (Classical.propDecidable _) 1 0)), h) := by
  rw [e_M_areTwo]
  by_cases hx : rg x (tn t)
  · obtain ⟨p, hp, rfl⟩ := id hx
    rw [m_isOne1 R hn hp, zbI_some, if_neg (by decide)]
    by_cases hy : rg y (tn t)
    · obtain ⟨q, hq, rfl⟩ := id hy
      rw [m_isOne1 R hn hq, zbI_some, if_neg (by decide)]
      by_cases he : nI p = nI q
      · rw [if_pos he, if_neg (fun z => z.2.2 he)]
      · rw [if_neg he, if_pos ⟨hx, hy, he⟩]
    · rw [m_isOne0 R hn hy, zbI_some, if_pos rfl, if_neg (fun z => hy z.2.1)]
  · rw [m_isOne0 R hn hx, zbI_some, if_pos rfl, if_neg (fun z => hx z.1)]
/-! thinking -/
/-- what is kept while the model thinks -/
def KT (h0 h : zH) : Prop := (∀ j, j < 37 → h.1 134 j = lay h0.1 j) ∧ ∀ b j, ¬ pS b j → h.1 b j = h0.1 b j
theorem m_think (R : MR h t) (hn : tn t ≤ 6) : ∃ h1, zcf X m_M_think [.ref 123] h = some (none, h1) ∧ MR h1 t ∧ KT h h1 ∧ h1.1 123 6 = h.1 123 6 := by
  rw [e_M_think]
  obtain ⟨h1, w1, T⟩ := m_takeAll (X := X) (h := h) (q := 133) (by decide) zc_134
  rw [w1, zbV_some]
  obtain ⟨t1, t2, t3, t4, t5⟩ := T
  refine ⟨h1, rfl, R.of hn fun j _ => ?_, ⟨t4, fun b j hb => t5 b j (fun z => hb (by unfold pS; omega)) (fun z => hb (by unfold pS; omega))⟩, t5 123 6 (by decide) (by decide)⟩
  unfold lay
  by_cases h0 : j = 0
  · rw [if_pos h0, if_pos h0]; exact t5 123 0 (by decide) (by decide)
  · rw [if_neg h0, if_neg h0]
    by_cases h2 : j = 1
    · rw [if_pos h2, if_pos h2]; exact t5 123 6 (by decide) (by decide)
    · rw [if_neg h2, if_neg h2]; exact t5 _ _ (by omega) (by omega)
/-- what may be written while the model thinks: all scratch but what is kept -/
def pT (b j : Nat) : Prop := pS b j ∧ b ≠ 134
theorem KT.go {h0 h h1 : zH} (K : KT h0 h) (f : FM pT h h1) : KT h0 h1 := ⟨fun j hj => (f 134 j (fun z => z.2 rfl)).trans (K.1 j hj), fun b j hb => (f b j (fun z => hb z.1)).trans (K.2 b j hb)⟩
theorem m_again {h0 : zH} (K : KT h0 h) : ∃ h1, zcf X m_M_again [.ref 123] h = some (none, h1) ∧ KT h0 h1 ∧ (∀ j, j < 37 → lay h1.1 j = lay h0.1 j) ∧ FM pS h h1 := by
  rw [e_M_again]
  obtain ⟨h1, w1, T⟩ := m_putAll (X := X) (h := h) (q := 133) (by decide) zc_134
  rw [w1, zbV_some]
  obtain ⟨t1, t2, t3, t4, t5⟩ := T
  have f : FM pT h h1 := fun b j hb => t5 b j (fun z => hb (by unfold pT pS; omega)) (fun z => hb (by unfold pT pS; omega))
  exact ⟨h1, rfl, K.go f, fun j hj => (t4 j hj).trans (K.1 j hj), f.mono fun b j z => z.1⟩
theorem MP.back {h0 h1 : zH} (R : MP h0 w) (V : WV w) (K : KT h0 h1) (l : ∀ j, j < 37 → lay h1.1 j = lay h0.1 j) : MP h1 w := R.qry V l K.2
theorem pN_pT {b j : Nat} (h : pN b j) : pT b j := by unfold pN at h; unfold pT pS; omega
theorem pS_pMa {b j : Nat} (h : pS b j) : pMa b j := by unfold pS at h; unfold pMa; omega
theorem KT.pM {h0 h1 : zH} (K : KT h0 h1) : FM pMa h0 h1 := fun b j hb => K.2 b j (fun z => hb (pS_pMa z))
end zargs
