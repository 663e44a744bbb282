/-! the pure picture of the people on a hill, and what they see -/
abbrev zA : Type := Nat → Int32
/-- how many, kinds, figures, cells, faces, starts -/
abbrev zT : Type := Nat × zA × zA × zA × zA × zA
def tn (t : zT) : Nat := t.1
def tK (t : zT) : zA := t.2.1
def tF (t : zT) : zA := t.2.2.1
def tC (t : zT) : zA := t.2.2.2.1
def tD (t : zT) : zA := t.2.2.2.2.1
def tS (t : zT) : zA := t.2.2.2.2.2
def rg (x : Int32) (m : Nat) : Prop := ∃ j, j < m ∧ x = nI j
def tV (t : zT) : Prop := tn t ≤ 6 ∧ ∀ p, p < tn t → rg (tK t p) 6 ∧ rg (tF t p) 10 ∧ rg (tC t p) 36 ∧ rg (tD t p) 4 ∧ rg (tS t p) 100
def RP (I : Nat → Nat → Int32) (z : Int32) (k f c d s : Nat) (t : zT) : Prop := z = nI (tn t) ∧ ∀ p, p < tn t → I k p = tK t p ∧ I f p = tF t p ∧ I c p = tC t p ∧ I d p = tD t p ∧ I s p = tS t p
def HR (h : zH) (a : Nat) (t : zT) : Prop := RP h.1 (h.1 a 5) (a + 1) (a + 2) (a + 3) (a + 4) (a + 5) t
def MR (h : zH) (t : zT) : Prop := RP h.1 (h.1 123 0) 124 125 126 127 128 t
theorem zI_ite {c : Prop} [Decidable c] {a b : Int32} {h : zH} : some (some (Value.int (if c then a else b)), h) = if c then some (some (Value.int a), h) else some (some (Value.int b), h) := by split <;> rfl
theorem zin_nI {p n : Nat} (h : p < n) (hn : n < 2 ^ 31) : zin (nI p) n = true := by
  unfold zin
  rw [Bool.and_eq_true]
  exact ⟨decide_eq_true (nI_pos (by omega)), decide_eq_true (by rw [nI_clamp (by omega)]; exact h)⟩
theorem ofNat_nI (n : Nat) : Int32.ofNat n = nI n := rfl
theorem nI_add1 (p : Nat) : nI p + 1 = nI (p + 1) := nI_1 p
/-! numbers -/
def bt (p : Nat) : Int32 := (1 : Int32) <<< (nI p &&& 31)
def rch (k f : Int32) : Int32 := if k = 1 then 3 + 1 else (if k = 2 then 1 + f / 2 else (if k = 3 then 2 * 3 else (if k = 4 then 0 else (if k = 5 then (3 + 1) + f / 3 else 3))))
def dpt (k f : Int32) : Int32 := if k = 2 then (2 + f / 4) + 1 else (if k = 3 then 2 + f / 4 else (if k = 4 then 2 * ((2 + f / 4) + 1) else (if k = 5 then 1 else 2 + f / 4)))
def bes (x0 x1 : Int32) : Int32 := if x0 < 0 then -1 else (if x0 < 36 then (if x1 = 0 then (if x0 < 6 then -1 else x0 - 6) else (if x1 = 1 then (if 5 ≤ zrem x0 6 then -1 else x0 + 1) else (if x1 = 2 then (if 30 ≤ x0 then -1 else x0 + 6) else (if x1 = 3 then (if zrem x0 6 ≤ 0 then -1 else x0 - 1) else -1)))) else -1)
def trn (d q : Int32) : Int32 := zrem (d + q) 4
/-! who is in a cell -/
def whoF (C : zA) (c : Int32) : Nat → Nat → Int32
  | 0, _ => -9
  | m + 1, p => if C p = c then nI p else whoF C c m (p + 1)
def who (n : Nat) (C : zA) (c : Int32) : Int32 := whoF C c n 0
theorem whoF_rg (C : zA) (c : Int32) : ∀ (m p : Nat), whoF C c m p = -9 ∨ ∃ q, p ≤ q ∧ q < p + m ∧ whoF C c m p = nI q ∧ C q = c := by
  intro m
  induction m with
  | zero => intro p; exact Or.inl rfl
  | succ m ih =>
    intro p
    unfold whoF
    by_cases h : C p = c
    · rw [if_pos h]; exact Or.inr ⟨p, Nat.le_refl _, by omega, rfl, h⟩
    · rw [if_neg h]
      rcases ih (p + 1) with q | ⟨q, h1, h2, h3⟩
      · exact Or.inl q
      · exact Or.inr ⟨q, by omega, by omega, h3⟩
theorem whoF_congr {C C' : zA} {c : Int32} : ∀ (m p : Nat), (∀ q, p ≤ q → q < p + m → C q = C' q) → whoF C c m p = whoF C' c m p := by
  intro m
  induction m with
  | zero => intro p _; rfl
  | succ m ih =>
    intro p h
    unfold whoF
    rw [h p (Nat.le_refl _) (by omega), ih (p + 1) (fun q h1 h2 => h q (by omega) (by omega))]
/-! looking straight -/
def rayF (n : Nat) (C : zA) (w : Int32) : Nat → Int32 → Int32
  | 0, _ => -9
  | m + 1, c => if bes c w = -1 then -9 else (if who n C (bes c w) = -9 then rayF n C w m (bes c w) else who n C (bes c w))
def ray (t : zT) (c w far : Int32) : Int32 := rayF (tn t) (tC t) w far.toNatClampNeg c
def ahd (t : zT) (p : Nat) : Int32 := ray t (tC t p) (tD t p) (rch (tK t p) (tF t p))
def lns (t : zT) (p : Nat) : Int32 := ray t (tC t p) (trn (tD t p) 2) (dpt (tK t p) (tF t p))
theorem rayF_rg (n : Nat) (C : zA) (w : Int32) : ∀ (m : Nat) (c : Int32), rayF n C w m c = -9 ∨ ∃ q, q < n ∧ rayF n C w m c = nI q := by
  intro m
  induction m with
  | zero => intro c; exact Or.inl rfl
  | succ m ih =>
    intro c
    unfold rayF
    by_cases h : bes c w = -1
    · rw [if_pos h]; exact Or.inl rfl
    · rw [if_neg h]
      by_cases h2 : who n C (bes c w) = -9
      · rw [if_pos h2]; exact ih _
      · rw [if_neg h2]
        rcases whoF_rg C (bes c w) n 0 with q | ⟨q, h3, h4, h5, h6⟩
        · exact absurd q h2
        · exact Or.inr ⟨q, by omega, h5⟩
theorem ray_rg (t : zT) (c w far : Int32) : ray t c w far = -9 ∨ ∃ q, q < tn t ∧ ray t c w far = nI q := rayF_rg _ _ _ _ _
/-! the class's small methods -/
section zcls1
variable {X : zX} {h : zH} {a : Nat} {t : zT}
theorem s_at {b n p : Nat} (A : zcl 140 b = (0, n)) (hb : 0 < b) (hp : p < n) (hn : n < 2 ^ 31) : zcf X m_X_at [.ref b, .int (nI p)] h = some (some (.int (h.1 b p)), h) := by
  obtain ⟨b, rfl⟩ : ∃ q, b = q + 1 := ⟨b - 1, by omega⟩
  rw [e_X_at A, if_neg (nI_pos (by omega)), ofNat_nI, if_neg (nI_ge hp hn), if_pos (zin_nI hp hn), nI_clamp (by omega)]
theorem s_put {b n p : Nat} {v : Int32} (A : zcl 140 b = (0, n)) (hb : 0 < b) (hp : p < n) (hn : n < 2 ^ 31) : zcf X m_X_put [.ref b, .int (nI p), .int v] h = some (none, (zup h.1 b p v, h.2)) := by
  obtain ⟨b, rfl⟩ : ∃ q, b = q + 1 := ⟨b - 1, by omega⟩
  rw [e_X_put A, if_neg (nI_pos (by omega)), ofNat_nI, if_neg (nI_ge hp hn), if_pos (zin_nI hp hn), nI_clamp (by omega)]
theorem s_bitOf {p : Nat} (hp : p < 32) : zcf X m_X_bitOf [.int (nI p)] h = some (some (.int (bt p)), h) := by
  have : ¬ (32 : Int32) ≤ nI p := nI_ge (b := 32) hp (by decide)
  rw [e_X_bitOf, if_neg (nI_pos (by omega)), if_neg this]
  rfl
theorem s_bitOf9 : zcf X m_X_bitOf [.int (-9)] h = some (some (.int 0), h) := by
  rw [e_X_bitOf, if_pos (by decide)]
theorem s_turned {d q : Int32} : zcf X m_X_turned [.int d, .int q] h = some (some (.int (trn d q)), h) := e_X_turned
theorem s_depth {k f : Int32} : zcf X m_X_depth [.int k, .int f] h = some (some (.int (dpt k f)), h) := by
  rw [e_X_depth]
  unfold dpt
  simp only [zI_ite]
theorem s_reach {k f : Int32} : zcf X m_X_reach [.int k, .int f] h = some (some (.int (rch k f)), h) := by
  rw [e_X_reach]
  unfold rch
  simp only [zI_ite]
theorem s_beside {c w : Int32} : zcf X m_X_cellBeside [.int c, .int w] h = some (some (.int (bes c w)), h) := by
  rw [e_X_cellBeside]
  unfold bes
  simp only [zI_ite]
theorem s_whoF (H : isH a) (R : HR h a t) (hn : tn t ≤ 6) (c : Int32) : ∀ (m p : Nat), p + m = tn t → zrn X 0 m_H_whoIsAt 2 [some (.ref a), some (.int c), some (.int (nI p))] [] h = some (some (.int (whoF (tC t) c m p)), h) := by
  intro m
  induction m with
  | zero =>
    intro p hp
    rw [b_H_whoIsAt_2 H, R.1, if_pos (nI_le (by omega) (by omega))]
    rfl
  | succ m ih =>
    intro p hp
    have h6 : ¬ (6 : Int32) ≤ nI p := nI_ge (b := 6) (by omega) (by decide)
    rw [b_H_whoIsAt_2 H, R.1, if_neg (nI_ge (by omega) (by omega)), if_neg h6, if_pos (zin_nI (by omega) (by decide)), nI_clamp (by omega), (R.2 p (by omega)).2.2.1]
    unfold whoF
    by_cases hc : tC t p = c
    · rw [if_pos hc, if_pos hc]
    · rw [if_neg hc, if_neg hc, nI_add1]
      exact ih (p + 1) (by omega)
theorem s_whoIsAt (H : isH a) (R : HR h a t) (hn : tn t ≤ 6) {c : Int32} : zcf X m_H_whoIsAt [.ref a, .int c] h = some (some (.int (who (tn t) (tC t) c)), h) := by
  rw [e_H_whoIsAt H]
  exact s_whoF H R hn c (tn t) 0 (Nat.zero_add _)
theorem s_isFree (H : isH a) (R : HR h a t) (hn : tn t ≤ 6) {c : Int32} : zcf X m_H_isFree [.ref a, .int c] h = some (some (.int (if who (tn t) (tC t) c = -9 then 1 else 0)), h) := by
  rw [e_H_isFree H, s_whoIsAt H R hn, zbI_some, zI_ite]
theorem s_kindOf (H : isH a) (R : HR h a t) (hn : tn t ≤ 6) {p : Nat} (hp : p < tn t) : zcf X m_X_at [.ref (a + 1), .int (nI p)] h = some (some (.int (tK t p)), h) := by
  rw [s_at H.k0 (Nat.succ_pos _) (by omega) (by decide), (R.2 p hp).1]
theorem s_figOf (H : isH a) (R : HR h a t) (hn : tn t ≤ 6) {p : Nat} (hp : p < tn t) : zcf X m_X_at [.ref (a + 2), .int (nI p)] h = some (some (.int (tF t p)), h) := by
  rw [s_at H.k1 (Nat.succ_pos _) (by omega) (by decide), (R.2 p hp).2.1]
theorem s_celOf (H : isH a) (R : HR h a t) (hn : tn t ≤ 6) {p : Nat} (hp : p < tn t) : zcf X m_X_at [.ref (a + 3), .int (nI p)] h = some (some (.int (tC t p)), h) := by
  rw [s_at H.k2 (Nat.succ_pos _) (by omega) (by decide), (R.2 p hp).2.2.1]
theorem s_facOf (H : isH a) (R : HR h a t) (hn : tn t ≤ 6) {p : Nat} (hp : p < tn t) : zcf X m_X_at [.ref (a + 4), .int (nI p)] h = some (some (.int (tD t p)), h) := by
  rw [s_at H.k3 (Nat.succ_pos _) (by omega) (by decide), (R.2 p hp).2.2.2.1]
theorem s_staOf (H : isH a) (R : HR h a t) (hn : tn t ≤ 6) {p : Nat} (hp : p < tn t) : zcf X m_X_at [.ref (a + 5), .int (nI p)] h = some (some (.int (tS t p)), h) := by
  rw [s_at H.k4 (Nat.succ_pos _) (by omega) (by decide), (R.2 p hp).2.2.2.2]
theorem s_reachOf (H : isH a) (R : HR h a t) (hn : tn t ≤ 6) {p : Nat} (hp : p < tn t) : zcf X m_H_reachOf [.ref a, .int (nI p)] h = some (some (.int (rch (tK t p) (tF t p))), h) := by
  rw [e_H_reachOf H, s_kindOf H R hn hp, zbI_some, s_figOf H R hn hp, zbI_some, s_reach, zbI_some]
theorem s_depthOf (H : isH a) (R : HR h a t) (hn : tn t ≤ 6) {p : Nat} (hp : p < tn t) : zcf X m_H_depthOf [.ref a, .int (nI p)] h = some (some (.int (dpt (tK t p) (tF t p))), h) := by
  rw [e_H_depthOf H, s_kindOf H R hn hp, zbI_some, s_figOf H R hn hp, zbI_some, s_depth, zbI_some]
theorem s_rayF (H : isH a) (R : HR h a t) (hn : tn t ≤ 6) (x1 w far : Int32) (e : Nat) (he : far = nI e) (he2 : e < 2 ^ 31) : ∀ (m i : Nat) (c : Int32) (g : Option Value), i + m = e → zrn X 1 m_H_nextTo 13 [some (.ref a), some (.int x1), some (.int w), some (.int far), some (.int c), some (.int (nI i)), g] [] h = some (some (.int (rayF (tn t) (tC t) w m c)), h) := by
  intro m
  induction m with
  | zero =>
    intro i c g hi
    rw [b_H_nextTo_13 H, he, if_pos (nI_le (by omega) (by omega))]
    rfl
  | succ m ih =>
    intro i c g hi
    rw [b_H_nextTo_13 H, if_neg (by rw [he]; exact nI_ge (by omega) he2), s_beside, zbI_some]
    unfold rayF
    by_cases hb : bes c w = -1
    · rw [if_pos hb, if_pos hb]
    · rw [if_neg hb, if_neg hb, s_whoIsAt H R hn, zbI_some]
      by_cases h2 : who (tn t) (tC t) (bes c w) = -9
      · rw [if_pos h2, if_pos h2, nI_add1]
        exact ih (i + 1) _ _ (by omega)
      · rw [if_neg h2, if_neg h2]
theorem s_nextTo (H : isH a) (R : HR h a t) (hn : tn t ≤ 6) {p : Nat} (hp : p < tn t) {w far : Int32} (hf : ∃ e, e < 2 ^ 31 ∧ far = nI e) : zcf X m_H_nextTo [.ref a, .int (nI p), .int w, .int far] h = some (some (.int (ray t (tC t p) w far)), h) := by
  obtain ⟨e, he2, he⟩ := hf
  rw [e_H_nextTo H, s_celOf H R hn hp, zbI_some]
  refine (s_rayF H R hn _ w far e he he2 e 0 _ _ (Nat.zero_add _)).trans ?_
  unfold ray
  rw [he, nI_clamp he2]
end zcls1
theorem rch_rg : ∀ k, k < 6 → ∀ f, f < 10 → ∃ e, e < 10 ∧ rch (nI k) (nI f) = nI e := by decide +kernel
theorem dpt_rg : ∀ k, k < 6 → ∀ f, f < 10 → ∃ e, e < 12 ∧ dpt (nI k) (nI f) = nI e := by decide +kernel
theorem tV_rch {t : zT} (V : tV t) {p : Nat} (hp : p < tn t) : ∃ e, e < 10 ∧ rch (tK t p) (tF t p) = nI e := by
  obtain ⟨⟨k, hk, e1⟩, ⟨f, hf, e2⟩, -⟩ := V.2 p hp
  rw [e1, e2]
  exact rch_rg k hk f hf
theorem tV_dpt {t : zT} (V : tV t) {p : Nat} (hp : p < tn t) : ∃ e, e < 12 ∧ dpt (tK t p) (tF t p) = nI e := by
  obtain ⟨⟨k, hk, e1⟩, ⟨f, hf, e2⟩, -⟩ := V.2 p hp
  rw [e1, e2]
  exact dpt_rg k hk f hf
section zcls2
variable {X : zX} {h : zH} {a : Nat} {t : zT}
theorem s_ahead (H : isH a) (R : HR h a t) (V : tV t) {p : Nat} (hp : p < tn t) : zcf X m_H_ahead [.ref a, .int (nI p)] h = some (some (.int (ahd t p)), h) := by
  obtain ⟨e, he, h1⟩ := tV_rch V hp
  rw [e_H_ahead H, s_facOf H R V.1 hp, zbI_some, s_reachOf H R V.1 hp, zbI_some, s_nextTo H R V.1 hp ⟨e, by omega, h1⟩, zbI_some]
  rfl
theorem s_inLens (H : isH a) (R : HR h a t) (V : tV t) {p : Nat} (hp : p < tn t) : zcf X m_H_inLens [.ref a, .int (nI p)] h = some (some (.int (lns t p)), h) := by
  obtain ⟨e, he, h1⟩ := tV_dpt V hp
  rw [e_H_inLens H, s_facOf H R V.1 hp, zbI_some, s_turned, zbI_some, s_depthOf H R V.1 hp, zbI_some, s_nextTo H R V.1 hp ⟨e, by omega, h1⟩, zbI_some]
  rfl
end zcls2
