/-! the model's small methods -/
def str (x0 x1 x2 : Int32) : Int32 := if (0 : Int64) ≤ Int32.toInt64 ((x0 / 6) + (if x1 = 2 then x2 else (if x1 = 0 then (-x2) else 0))) ∧ Int32.toInt64 ((x0 / 6) + (if x1 = 2 then x2 else (if x1 = 0 then (-x2) else 0))) ≤ 5 then (if (0 : Int64) ≤ Int32.toInt64 ((zrem x0 6) + (if x1 = 1 then x2 else (if x1 = 3 then (-x2) else 0))) ∧ Int32.toInt64 ((zrem x0 6) + (if x1 = 1 then x2 else (if x1 = 3 then (-x2) else 0))) ≤ 5 then (6 * ((x0 / 6) + (if x1 = 2 then x2 else (if x1 = 0 then (-x2) else 0)))) + ((zrem x0 6) + (if x1 = 1 then x2 else (if x1 = 3 then (-x2) else 0))) else -9) else -9
def besN (w : Int32) : Nat → Int32 → Int32
  | 0, c => c
  | k + 1, c => if besN w k c = -1 then -1 else bes (besN w k c) w
theorem str_bes : ∀ j, j < 36 → ∀ i, i < 4 → ∀ k, k < 5 → str (nI j) (nI i) (nI (k + 1)) = if besN (nI i) (k + 1) (nI j) = -1 then -9 else besN (nI i) (k + 1) (nI j) := by decide +kernel
theorem besN_6 : ∀ j, j < 36 → ∀ i, i < 4 → besN (nI i) 6 (nI j) = -1 := by decide +kernel
theorem besN_rg : ∀ j, j < 36 → ∀ i, i < 4 → ∀ k, k < 6 → besN (nI i) k (nI j) = -1 ∨ (0 ≤ besN (nI i) k (nI j) ∧ besN (nI i) k (nI j) < 36) := by decide +kernel
theorem zcmp_lt {x y : Int64} : lg_cmp x y < 0 ↔ x < y := by
  unfold lg_cmp
  have e1 : x < y ↔ x.toInt < y.toInt := Int64.lt_iff_toInt_lt
  have e2 : y < x ↔ y.toInt < x.toInt := Int64.lt_iff_toInt_lt
  by_cases h : y < x
  · rw [if_pos h]
    exact ⟨fun q => absurd q (by decide), fun q => absurd (e1.mp q) (by have := e2.mp h; omega)⟩
  · rw [if_neg h]
    by_cases h2 : x = y
    · rw [if_pos h2]
      subst h2
      exact ⟨fun q => absurd q (by decide), fun q => absurd (e1.mp q) (by omega)⟩
    · rw [if_neg h2]
      have h3 : x.toInt ≠ y.toInt := fun q => h2 (Int64.toInt_inj.mp q)
      exact ⟨fun _ => e1.mpr (by have : ¬ y.toInt < x.toInt := fun q => h (e2.mpr q); omega), fun _ => by decide⟩
theorem zcmp_gt {x y : Int64} : 0 < lg_cmp x y ↔ y < x := by
  unfold lg_cmp
  by_cases h : y < x
  · rw [if_pos h]
    exact ⟨fun _ => h, fun _ => by decide⟩
  · rw [if_neg h]
    by_cases h2 : x = y
    · rw [if_pos h2]
      exact ⟨fun q => absurd q (by decide), fun q => absurd q h⟩
    · rw [if_neg h2]
      exact ⟨fun q => absurd q (by decide), fun q => absurd q h⟩
section zmod1
variable {X : zX} {h : zH} {t : zT}
theorem m_in {x lo hi : Int64} : zcf X m_M_in [.long x, .long lo, .long hi] h = some (some (.int (if lo ≤ x ∧ x ≤ hi then 1 else 0)), h) := by
  rw [e_M_in]
  have a1 : lo ≤ x ↔ ¬ x < lo := by rw [Int64.le_iff_toInt_le, Int64.lt_iff_toInt_lt]; omega
  have a2 : x ≤ hi ↔ ¬ hi < x := by rw [Int64.le_iff_toInt_le, Int64.lt_iff_toInt_lt]; omega
  by_cases h1 : x < lo
  · rw [if_pos (zcmp_lt.mpr h1), if_neg (fun q => a1.mp q.1 h1)]
  · rw [if_neg (fun q => h1 (zcmp_lt.mp q))]
    by_cases h2 : hi < x
    · rw [if_pos (zcmp_gt.mpr h2), if_neg (fun q => a2.mp q.2 h2)]
    · rw [if_neg (fun q => h2 (zcmp_gt.mp q)), if_pos ⟨a1.mpr h1, a2.mpr h2⟩]
theorem m_straight {c w k : Int32} : zcf X m_M_straight [.int c, .int w, .int k] h = some (some (.int (str c w k)), h) := by
  rw [e_M_straight, m_in, zbI_some]
  unfold str
  generalize (c / 6 + (if w = 2 then k else (if w = 0 then (-k) else 0))) = r1
  generalize (zrem c 6 + (if w = 1 then k else (if w = 3 then (-k) else 0))) = c1
  by_cases h1 : (0 : Int64) ≤ r1.toInt64 ∧ r1.toInt64 ≤ 5
  · rw [if_pos h1, if_neg (by decide), if_pos h1, m_in, zbI_some]
    by_cases h2 : (0 : Int64) ≤ c1.toInt64 ∧ c1.toInt64 ≤ 5
    · rw [if_pos h2, if_neg (by decide), if_pos h2]
    · rw [if_neg h2, if_pos rfl, if_neg h2]
  · rw [if_neg h1, if_pos rfl, if_neg h1]
theorem m_whoF (R : MR h t) (hn : tn t ≤ 6) (c : Int32) : ∀ (m p : Nat), p + m = tn t → zrn X 0 m_M_oneIn 2 [some (.ref 123), some (.int c), some (.int (nI p))] [] h = some (some (.int (whoF (tC t) c m p)), h) := by
  intro m
  induction m with
  | zero =>
    intro p hp
    rw [b_M_oneIn_2, R.1, if_pos (nI_le (by omega) (by omega))]
    rfl
  | succ m ih =>
    intro p hp
    rw [b_M_oneIn_2, R.1, if_neg (nI_ge (by omega) (by omega)), if_pos (zin_nI (by omega) (by decide)), nI_clamp (by omega), (R.2 p (by omega)).2.2.1]
    unfold whoF
    by_cases hc : tC t p = c
    · rw [if_pos hc, if_pos hc]
    · rw [if_neg hc, if_neg hc, nI_add1]
      exact ih (p + 1) (by omega)
theorem m_oneIn (R : MR h t) (hn : tn t ≤ 6) {c : Int32} : zcf X m_M_oneIn [.ref 123, .int c] h = some (some (.int (who (tn t) (tC t) c)), h) := by
  rw [e_M_oneIn]
  exact m_whoF R hn c (tn t) 0 (Nat.zero_add _)
theorem who_neg {n : Nat} (hn : n < 2 ^ 31) {C : zA} {c : Int32} : who n C c < 0 ↔ who n C c = -9 := by
  rcases whoF_rg C c n 0 with q | ⟨q, h1, h2, h3, h4⟩
  · unfold who; rw [q]; decide
  · unfold who
    rw [h3]
    have h5 : ¬ nI q < 0 := nI_pos (by omega)
    refine ⟨fun z => absurd z h5, fun z => ?_⟩
    rw [z] at h5
    exact absurd (by decide) h5
theorem m_rayF (R : MR h t) (hn : tn t ≤ 6) (j i : Nat) (hj : j < 36) (hi : i < 4) (e : Nat) (he2 : e < 2 ^ 30) : ∀ (m k : Nat) (g g' : Option Value), k ≤ 5 → k + m = e → zrn X 2 m_M_nextFrom 3 [some (.ref 123), some (.int (nI j)), some (.int (nI i)), some (.int (nI e)), some (.int (nI (k + 1))), g, g'] [] h = some (some (.int (if besN (nI i) k (nI j) = -1 then -9 else rayF (tn t) (tC t) (nI i) m (besN (nI i) k (nI j)))), h) := by
  intro m
  induction m with
  | zero =>
    intro k g g' hk hke
    rw [b_M_nextFrom_3, if_pos (nI_lt (by omega) (by omega))]
    unfold rayF
    split <;> rfl
  | succ m ih =>
    intro k g g' hk hke
    rw [b_M_nextFrom_3, if_neg (nI_nlt (by omega) (by omega))]
    by_cases h6 : k = 5
    · subst h6
      have h7 : (6 : Int32) ≤ nI (5 + 1) := by decide
      have hb := besN_6 j hj i hi
      unfold besN at hb
      rw [if_pos h7]
      by_cases hc : besN (nI i) 5 (nI j) = -1
      · rw [if_pos hc]
      · rw [if_neg hc] at hb ⊢
        unfold rayF
        rw [if_pos hb]
    · have h7 : ¬ (6 : Int32) ≤ nI (k + 1) := nI_ge (b := 6) (by omega) (by decide)
      rw [if_neg h7, m_straight, zbI_some, str_bes j hj i hi k (by omega)]
      have hstep : besN (nI i) (k + 1) (nI j) = if besN (nI i) k (nI j) = -1 then -1 else bes (besN (nI i) k (nI j)) (nI i) := rfl
      by_cases hc1 : besN (nI i) (k + 1) (nI j) = -1
      · rw [if_pos hc1, if_neg (by decide), nI_add1, ih (k + 1) _ _ (by omega) (by omega), if_pos hc1]
        by_cases hc : besN (nI i) k (nI j) = -1
        · rw [if_pos hc]
        · rw [if_neg hc]
          rw [if_neg hc] at hstep
          unfold rayF
          rw [if_pos (hstep.symm.trans hc1)]
      · rw [if_neg hc1]
        have hpos : 0 ≤ besN (nI i) (k + 1) (nI j) := by
          rcases besN_rg j hj i hi (k + 1) (by omega) with q | q
          · exact absurd q hc1
          · exact q.1
        have hc : ¬ besN (nI i) k (nI j) = -1 := fun q => hc1 (by rw [hstep, if_pos q])
        rw [if_neg hc] at hstep
        rw [if_pos hpos, m_oneIn R hn, zbI_some, if_neg hc]
        unfold rayF
        rw [← hstep, if_neg hc1]
        by_cases hw : who (tn t) (tC t) (besN (nI i) (k + 1) (nI j)) = -9
        · rw [if_pos ((who_neg (by omega)).mpr hw), if_pos hw, nI_add1, ih (k + 1) _ _ (by omega) (by omega), if_neg hc1]
        · rw [if_neg (fun q => hw ((who_neg (by omega)).mp q)), if_neg hw]
theorem m_nextFrom (R : MR h t) (hn : tn t ≤ 6) {c w far : Int32} (hc : rg c 36) (hw : rg w 4) (hf : ∃ e, e < 2 ^ 30 ∧ far = nI e) : zcf X m_M_nextFrom [.ref 123, .int c, .int w, .int far] h = some (some (.int (ray t c w far)), h) := by
  obtain ⟨j, hj, rfl⟩ := hc
  obtain ⟨i, hi, rfl⟩ := hw
  obtain ⟨e, he, rfl⟩ := hf
  rw [e_M_nextFrom]
  refine (m_rayF R hn j i hj hi e he e 0 none none (Nat.zero_le _) (Nat.zero_add _)).trans ?_
  have h0 : ¬ besN (nI i) 0 (nI j) = -1 := by
    show ¬ nI j = -1
    intro q
    have := nI_pos (n := j) (by omega)
    rw [q] at this
    exact this (by decide)
  rw [if_neg h0]
  unfold ray
  rw [nI_clamp (by omega)]
  rfl
theorem m_reachOf (R : MR h t) (hn : tn t ≤ 6) {p : Nat} (hp : p < tn t) : zcf X m_M_reachOf [.ref 123, .int (nI p)] h = some (some (.int (rch (tK t p) (tF t p))), h) := by
  have hz : zin (nI p) 7 = true := zin_nI (by omega) (by decide)
  rw [e_M_reachOf]
  simp only [hz, if_true, nI_clamp (show p < 2 ^ 31 by omega), (R.2 p hp).1, (R.2 p hp).2.1]
  unfold rch
  simp only [zI_ite]
  rfl
theorem m_depthOf (R : MR h t) (hn : tn t ≤ 6) {p : Nat} (hp : p < tn t) : zcf X m_M_depthOf [.ref 123, .int (nI p)] h = some (some (.int (dpt (tK t p) (tF t p))), h) := by
  have hz : zin (nI p) 7 = true := zin_nI (by omega) (by decide)
  rw [e_M_depthOf]
  simp only [hz, if_true, nI_clamp (show p < 2 ^ 31 by omega), (R.2 p hp).1, (R.2 p hp).2.1]
  unfold dpt
  simp only [zI_ite]
theorem trn_rg : ∀ j, j < 4 → ∀ q, q < 4 → rg (trn (nI j) (nI q)) 4 := by unfold rg; decide +kernel
theorem m_aheadOf (R : MR h t) (V : tV t) {p : Nat} (hp : p < tn t) : zcf X m_M_aheadOf [.ref 123, .int (nI p)] h = some (some (.int (ahd t p)), h) := by
  have h6 := V.1
  obtain ⟨e, he, h1⟩ := tV_rch V hp
  have v := V.2 p hp
  rw [e_M_aheadOf, if_pos (zin_nI (by omega) (by decide)), if_pos (zin_nI (by omega) (by decide)), m_reachOf R V.1 hp, zbI_some, nI_clamp (by omega), (R.2 p hp).2.2.1, (R.2 p hp).2.2.2.1, m_nextFrom R V.1 v.2.2.1 v.2.2.2.1 ⟨e, by omega, h1⟩, zbI_some]
  rfl
theorem m_lensOf (R : MR h t) (V : tV t) {p : Nat} (hp : p < tn t) : zcf X m_M_lensOf [.ref 123, .int (nI p)] h = some (some (.int (lns t p)), h) := by
  have h6 := V.1
  obtain ⟨e, he, h1⟩ := tV_dpt V hp
  have v := V.2 p hp
  have hd : rg (trn (tD t p) 2) 4 := by
    obtain ⟨j, hj, e1⟩ := v.2.2.2.1
    rw [e1]
    exact trn_rg j hj 2 (by decide)
  rw [e_M_lensOf, if_pos (zin_nI (by omega) (by decide)), if_pos (zin_nI (by omega) (by decide)), m_depthOf R V.1 hp, zbI_some, nI_clamp (by omega), (R.2 p hp).2.2.1, (R.2 p hp).2.2.2.1]
  have := m_nextFrom (X := X) R V.1 v.2.2.1 hd ⟨e, by omega, h1⟩
  unfold trn at this
  rw [this, zbI_some]
  rfl
end zmod1
