/-! further methods of a hill, and their fellows of the model -/
def fold (f : Nat → Int32 → Int32) : Nat → Nat → Int32 → Int32
  | 0, _, x => x
  | m + 1, p, x => fold f m (p + 1) (f p x)
theorem fold_congr {f g : Nat → Int32 → Int32} : ∀ (m p : Nat) (x : Int32), (∀ q y, p ≤ q → q < p + m → f q y = g q y) → fold f m p x = fold g m p x := by
  intro m
  induction m with
  | zero => intro p x _; rfl
  | succ m ih =>
    intro p x h
    unfold fold
    rw [h p x (Nat.le_refl _) (by omega)]
    exact ih (p + 1) _ (fun q y h1 h2 => h q y (by omega) (by omega))
def wat (t : zT) (x : Int32) : Int32 := fold (fun q y => y ||| (if ahd t q = x then bt q else 0)) (tn t) 0 0
def sto (t : zT) : Int32 := fold (fun q y => y + tS t q) (tn t) 0 0
def hms (t : zT) (f : zT → Nat → Int32) : Int32 := fold (fun q y => y + (if f t q = -9 then 0 else 1)) (tn t) 0 0
def nts (t : zT) : Nat → zT
  | 0 => t
  | m + 1 => nts (night t (-9)).1 m
theorem nts_V : ∀ (m : Nat) (t : zT), tV t → tV (nts t m) ∧ tn (nts t m) = tn t := by
  intro m
  induction m with
  | zero => intro t V; exact ⟨V, rfl⟩
  | succ m ih =>
    intro t V
    obtain ⟨v1, v2⟩ := night_V V (-9)
    obtain ⟨w1, w2⟩ := ih _ v1
    exact ⟨w1, w2.trans v2⟩
section zh29
variable {X : zX} {h : zH} {a : Nat} {t : zT}
theorem s_watF (H : isH a) (R : HR h a t) (V : tV t) (x : Int32) : ∀ (m p : Nat) (y : Int32), p + m = tn t → zrn X 3 m_H_watchers 4 [some (.ref a), some (.int x), some (.int y), some (.int (nI p))] [] h = some (some (.int (fold (fun q y => y ||| (if ahd t q = x then bt q else 0)) m p y)), h) := by
  intro m
  have hn := V.1
  induction m with
  | zero =>
    intro p y hp
    rw [b_H_watchers_4 H, R.1, if_pos (nI_le (by omega) (by omega))]
    rfl
  | succ m ih =>
    intro p y hp
    rw [b_H_watchers_4 H, R.1, if_neg (nI_ge (by omega) (by omega)), s_ahead H R V (by omega), zbI_some]
    unfold fold
    by_cases h1 : ahd t p = x
    · rw [if_pos h1, if_pos h1, s_bitOf (by omega), zbI_some, nI_add1]
      exact ih (p + 1) _ (by omega)
    · rw [if_neg h1, if_neg h1, nI_add1]
      exact ih (p + 1) _ (by omega)
theorem s_watchers (H : isH a) (R : HR h a t) (V : tV t) {x : Int32} : zcf X m_H_watchers [.ref a, .int x] h = some (some (.int (wat t x)), h) := by
  rw [e_H_watchers H]
  exact s_watF H R V x (tn t) 0 0 (Nat.zero_add _)
theorem m_watF (R : MR h t) (V : tV t) (x : Int32) : ∀ (m p : Nat) (y : Int32), p + m = tn t → zrn X 4 m_M_watchersOf 4 [some (.ref 123), some (.int x), some (.int y), some (.int (nI p))] [] h = some (some (.int (fold (fun q y => y ||| (if ahd t q = x then bt q else 0)) m p y)), h) := by
  intro m
  have hn := V.1
  induction m with
  | zero =>
    intro p y hp
    rw [b_M_watchersOf_4, R.1, if_pos (nI_le (by omega) (by omega))]
    rfl
  | succ m ih =>
    intro p y hp
    rw [b_M_watchersOf_4, R.1, if_neg (nI_ge (by omega) (by omega)), m_aheadOf R V (by omega), zbI_some, nI_add1]
    exact ih (p + 1) _ (by omega)
theorem m_watchersOf (R : MR h t) (V : tV t) {x : Int32} : zcf X m_M_watchersOf [.ref 123, .int x] h = some (some (.int (wat t x)), h) := by
  rw [e_M_watchersOf]
  exact m_watF R V x (tn t) 0 0 (Nat.zero_add _)
theorem s_stoF (H : isH a) (R : HR h a t) (hn : tn t ≤ 6) : ∀ (m p : Nat) (y : Int32), p + m = tn t → zrn X 1 m_H_startsTogether 4 [some (.ref a), some (.int y), some (.int (nI p))] [] h = some (some (.int (fold (fun q y => y + tS t q) m p y)), h) := by
  intro m
  induction m with
  | zero =>
    intro p y hp
    rw [b_H_startsTogether_4 H, R.1, if_pos (nI_le (by omega) (by omega))]
    rfl
  | succ m ih =>
    intro p y hp
    rw [b_H_startsTogether_4 H, R.1, if_neg (nI_ge (by omega) (by omega)), s_staOf H R hn (by omega), zbI_some, nI_add1]
    exact ih (p + 1) _ (by omega)
theorem s_startsTogether (H : isH a) (R : HR h a t) (hn : tn t ≤ 6) : zcf X m_H_startsTogether [.ref a] h = some (some (.int (sto t)), h) := by
  rw [e_H_startsTogether H]
  exact s_stoF H R hn (tn t) 0 0 (Nat.zero_add _)
theorem m_stoF (R : MR h t) (hn : tn t ≤ 6) : ∀ (m p : Nat) (y : Int32), p + m = tn t → zrn X 0 m_M_allOfStarts 4 [some (.ref 123), some (.int y), some (.int (nI p))] [] h = some (some (.int (fold (fun q y => y + tS t q) m p y)), h) := by
  intro m
  induction m with
  | zero =>
    intro p y hp
    rw [b_M_allOfStarts_4, R.1, if_pos (nI_le (by omega) (by omega))]
    rfl
  | succ m ih =>
    intro p y hp
    rw [b_M_allOfStarts_4, R.1, if_neg (nI_ge (by omega) (by omega)), if_pos (zin_nI (by omega) (by decide)), nI_clamp (by omega), (R.2 p (by omega)).2.2.2.2, nI_add1]
    exact ih (p + 1) _ (by omega)
theorem m_allOfStarts (R : MR h t) (hn : tn t ≤ 6) : zcf X m_M_allOfStarts [.ref 123] h = some (some (.int (sto t)), h) := by
  rw [e_M_allOfStarts]
  exact m_stoF R hn (tn t) 0 0 (Nat.zero_add _)
theorem s_hmsF (H : isH a) (R : HR h a t) (V : tV t) (b : Bool) : ∀ (m p : Nat) (y : Int32) (g : Option Value), p + m = tn t → zrn X 3 m_H_howManySee 4 [some (.ref a), some (.int (if b = true then 1 else 0)), some (.int y), some (.int (nI p)), g] [] h = some (some (.int (fold (fun q y => y + (if (if b = true then ahd else lns) t q = -9 then 0 else 1)) m p y)), h) := by
  intro m
  have hn := V.1
  induction m with
  | zero =>
    intro p y g hp
    rw [b_H_howManySee_4 H, R.1, if_pos (nI_le (by omega) (by omega))]
    rfl
  | succ m ih =>
    intro p y g hp
    rw [b_H_howManySee_4 H, R.1, if_neg (nI_ge (by omega) (by omega))]
    unfold fold
    cases b
    · rw [if_pos (show (if false = true then (1 : Int32) else 0) = 0 by decide), s_inLens H R V (by omega), zbI_some, nI_add1]
      exact ih (p + 1) (y + (if lns t p = -9 then 0 else 1)) (some (.int (lns t p))) (by omega)
    · rw [if_neg (show ¬ (if true = true then (1 : Int32) else 0) = 0 by decide), s_ahead H R V (by omega), zbI_some, nI_add1]
      exact ih (p + 1) (y + (if ahd t p = -9 then 0 else 1)) (some (.int (ahd t p))) (by omega)
theorem s_howMany1 (H : isH a) (R : HR h a t) (V : tV t) : zcf X m_H_howManySee [.ref a, .int 1] h = some (some (.int (hms t ahd)), h) := by
  rw [e_H_howManySee H]
  exact s_hmsF H R V true (tn t) 0 0 none (Nat.zero_add _)
theorem s_howMany0 (H : isH a) (R : HR h a t) (V : tV t) : zcf X m_H_howManySee [.ref a, .int 0] h = some (some (.int (hms t lns)), h) := by
  rw [e_H_howManySee H]
  exact s_hmsF H R V false (tn t) 0 0 none (Nat.zero_add _)
/-- a hill becomes another -/
theorem s_becF (H : isH a) {b : Nat} (H1 : isH b) (hab : a + 5 < b ∨ b + 5 < a) (t : zT) (hn : tn t ≤ 6) : ∀ (m p : Nat) (h : zH), p + m = tn t → HR h b t → h.1 a 5 = nI (tn t) → (∀ q, q < p → h.1 (a + 1) q = tK t q ∧ h.1 (a + 2) q = tF t q ∧ h.1 (a + 3) q = tC t q ∧ h.1 (a + 4) q = tD t q ∧ h.1 (a + 5) q = tS t q) → ∃ h', zrn X 1 m_H_become 39 [some (.ref a), some (.ref b), some (.int (nI p))] [] h = some (none, h') ∧ HR h' a t ∧ h'.1 a 6 = h.1 a 6 ∧ Fr a (a + 5) h h' := by
  intro m
  induction m with
  | zero =>
    intro p h hp R h5 hq
    rw [b_H_become_39 H H1, h5, if_pos (nI_le (by omega) (by omega))]
    exact ⟨h, rfl, ⟨h5, fun q hq1 => hq q (by omega)⟩, rfl, Fr.rf⟩
  | succ m ih =>
    intro p h hp R h5 hq
    have hp1 : p < tn t := by omega
    obtain ⟨r1, r2, r3, r4, r5⟩ := R.2 p hp1
    rw [b_H_become_39 H H1, h5, if_neg (nI_ge (by omega) (by omega))]
    have e1 : ∀ (k : Nat) (v w : Int32) (h : zH), zcl 140 (a + k) = (0, 6) → 0 < k → zcf X m_X_put [.ref (a + k), .int (nI p), .int v] h = some (none, (zup h.1 (a + k) p v, h.2)) := fun k v w h A hk => s_put A (by omega) (by omega) (by decide)
    have e2 : ∀ (k : Nat) (h : zH), zcl 140 (b + k) = (0, 6) → 0 < k → zcf X m_X_at [.ref (b + k), .int (nI p)] h = some (some (.int (h.1 (b + k) p)), h) := fun k h A hk => s_at A (by omega) (by omega) (by decide)
    rw [e2 1 _ H1.k0 (by decide), zbI_some, e1 1 _ 0 _ H.k0 (by decide), zbV_some, e2 2 _ H1.k1 (by decide), zbI_some, e1 2 _ 0 _ H.k1 (by decide), zbV_some, e2 3 _ H1.k2 (by decide), zbI_some, e1 3 _ 0 _ H.k2 (by decide), zbV_some, e2 4 _ H1.k3 (by decide), zbI_some, e1 4 _ 0 _ H.k3 (by decide), zbV_some, e2 5 _ H1.k4 (by decide), zbI_some, e1 5 _ 0 _ H.k4 (by decide), zbV_some, nI_add1]
    dsimp only
    simp only [zup_nc (show b + 2 ≠ a + 1 by omega), zup_nc (show b + 3 ≠ a + 1 by omega), zup_nc (show b + 3 ≠ a + 2 by omega), zup_nc (show b + 4 ≠ a + 1 by omega), zup_nc (show b + 4 ≠ a + 2 by omega), zup_nc (show b + 4 ≠ a + 3 by omega), zup_nc (show b + 5 ≠ a + 1 by omega), zup_nc (show b + 5 ≠ a + 2 by omega), zup_nc (show b + 5 ≠ a + 3 by omega), zup_nc (show b + 5 ≠ a + 4 by omega), r1, r2, r3, r4, r5]
    generalize hI : zup (zup (zup (zup (zup h.1 (a + 1) p (tK t p)) (a + 2) p (tF t p)) (a + 3) p (tC t p)) (a + 4) p (tD t p)) (a + 5) p (tS t p) = I
    have far : ∀ c i, (c < a + 1 ∨ a + 5 < c) → I c i = h.1 c i := fun c i hc => by
      rw [← hI, zup_nc (by omega), zup_nc (by omega), zup_nc (by omega), zup_nc (by omega), zup_nc (by omega)]
    have R2 : HR (I, h.2) b t := by
      refine ⟨?_, fun q hq2 => ?_⟩
      · show I b 5 = _
        rw [far b 5 (by omega)]; exact R.1
      · show I (b + 1) q = _ ∧ I (b + 2) q = _ ∧ I (b + 3) q = _ ∧ I (b + 4) q = _ ∧ I (b + 5) q = _
        rw [far _ q (by omega), far _ q (by omega), far _ q (by omega), far _ q (by omega), far _ q (by omega)]
        exact R.2 q hq2
    obtain ⟨h', w1, w2, w3, w4⟩ := ih (p + 1) (I, h.2) (by omega) R2 (by show I a 5 = _; rw [far a 5 (by omega)]; exact h5) (fun q hq2 => by
      show I (a + 1) q = _ ∧ I (a + 2) q = _ ∧ I (a + 3) q = _ ∧ I (a + 4) q = _ ∧ I (a + 5) q = _
      by_cases hqp : q = p
      · subst hqp
        refine ⟨?_, ?_, ?_, ?_, ?_⟩
        · rw [← hI, zup_nc (by omega), zup_nc (by omega), zup_nc (by omega), zup_nc (by omega), zup_eq]
        · rw [← hI, zup_nc (by omega), zup_nc (by omega), zup_nc (by omega), zup_eq]
        · rw [← hI, zup_nc (by omega), zup_nc (by omega), zup_eq]
        · rw [← hI, zup_nc (by omega), zup_eq]
        · rw [← hI, zup_eq]
      · have : ∀ c, I c q = h.1 c q := fun c => by
          rw [← hI, zup_ns hqp, zup_ns hqp, zup_ns hqp, zup_ns hqp, zup_ns hqp]
        rw [this, this, this, this, this]
        exact hq q (by omega))
    have f1 : Fr a (a + 5) h (I, h.2) := ⟨rfl, fun c i hc => far c i (by omega)⟩
    exact ⟨h', w1, w2, by rw [w3]; exact far a 6 (by omega), f1.tr w4⟩
theorem s_become (H : isH a) {b : Nat} (H1 : isH b) (hab : a + 5 < b ∨ b + 5 < a) (R : HR h b t) (hn : tn t ≤ 6) : ∃ h', zcf X m_H_become [.ref a, .ref b] h = some (none, h') ∧ HR h' a t ∧ h'.1 a 6 = h.1 b 6 ∧ Fr a (a + 5) h h' := by
  rw [e_H_become H H1]
  generalize hI : zup (zup (zup (zup h.1 a 5 (h.1 b 5)) a 6 ((zup h.1 a 5 (h.1 b 5)) b 6)) a 7 ((zup (zup h.1 a 5 (h.1 b 5)) a 6 ((zup h.1 a 5 (h.1 b 5)) b 6)) b 7)) a 8 ((zup (zup (zup h.1 a 5 (h.1 b 5)) a 6 ((zup h.1 a 5 (h.1 b 5)) b 6)) a 7 ((zup (zup h.1 a 5 (h.1 b 5)) a 6 ((zup h.1 a 5 (h.1 b 5)) b 6)) b 7)) b 8) = I
  have far : ∀ c i, c ≠ a → I c i = h.1 c i := fun c i hc => by
    rw [← hI, zup_nc hc, zup_nc hc, zup_nc hc, zup_nc hc]
  have e5 : I a 5 = h.1 b 5 := by rw [← hI, zup_ns (by decide), zup_ns (by decide), zup_ns (by decide), zup_eq]
  have e6 : I a 6 = h.1 b 6 := by rw [← hI, zup_ns (by decide), zup_ns (by decide), zup_eq, zup_nc (by omega)]
  have R2 : HR (I, h.2) b t := by
    refine ⟨?_, fun q hq2 => ?_⟩
    · show I b 5 = _
      rw [far b 5 (by omega)]; exact R.1
    · show I (b + 1) q = _ ∧ I (b + 2) q = _ ∧ I (b + 3) q = _ ∧ I (b + 4) q = _ ∧ I (b + 5) q = _
      rw [far _ q (by omega), far _ q (by omega), far _ q (by omega), far _ q (by omega), far _ q (by omega)]
      exact R.2 q hq2
  obtain ⟨h', w1, w2, w3, w4⟩ := s_becF (X := X) H H1 hab t hn (tn t) 0 (I, h.2) (Nat.zero_add _) R2 (e5.trans R.1) (fun q hq => absurd hq (Nat.not_lt_zero _))
  exact ⟨h', w1, w2, w3.trans e6, Fr.tr (h1 := (I, h.2)) ⟨rfl, fun c i hc => far c i (by omega)⟩ w4⟩
theorem s_passF (H : isH a) (e : Nat) (he : e < 2 ^ 31) : ∀ (m i : Nat) (t : zT) (h : zH), i + m = e → HR h a t → tV t → ∃ h', zrn X 5 m_H_pass 2 [some (.ref a), some (.int (nI e)), some (.int (nI i))] [] h = some (none, h') ∧ HR h' a (nts t m) ∧ h'.1 a 6 = h.1 a 6 + nI m ∧ Fr a (a + 5) h h' := by
  intro m
  induction m with
  | zero =>
    intro i t h hi R V
    rw [b_H_pass_2 H, if_pos (nI_le (by omega) (by omega))]
    exact ⟨h, rfl, R, by rw [nI_0]; exact (Int32.add_zero _).symm, Fr.rf⟩
  | succ m ih =>
    intro i t h hi R V
    rw [b_H_pass_2 H, if_neg (nI_ge (by omega) he)]
    obtain ⟨h1, w1, w2, w3, w4, w5, w6⟩ := s_night (X := X) H R V (-9)
    rw [w1, zbV_some, nI_add1]
    obtain ⟨h', u1, u2, u3, u4⟩ := ih (i + 1) _ h1 (by omega) w2 (night_V V (-9)).1
    exact ⟨h', u1, u2, by rw [u3, w5, Int32.add_assoc, nI_succ, Int32.add_comm 1], w6.tr u4⟩
theorem s_pass (H : isH a) (R : HR h a t) (V : tV t) {e : Nat} (he : e < 2 ^ 31) : ∃ h', zcf X m_H_pass [.ref a, .int (nI e)] h = some (none, h') ∧ HR h' a (nts t e) ∧ h'.1 a 6 = h.1 a 6 + nI e ∧ Fr a (a + 5) h h' := by
  rw [e_H_pass H]
  exact s_passF H e he e 0 t h (Nat.zero_add _) R V
theorem m_goF (e : Nat) (he : e < 2 ^ 31) : ∀ (m i : Nat) (t : zT) (h : zH), i + m = e → MR h t → tV t → ∃ h', zrn X 6 m_M_goNights 2 [some (.ref 123), some (.int (nI e)), some (.int (nI i))] [] h = some (none, h') ∧ MR h' (nts t m) ∧ h'.1 123 6 = h.1 123 6 + nI m ∧ FS pN h h' := by
  intro m
  induction m with
  | zero =>
    intro i t h hi R V
    rw [b_M_goNights_2, if_pos (nI_le (by omega) (by omega))]
    exact ⟨h, rfl, R, by rw [nI_0]; exact (Int32.add_zero _).symm, FS.rf⟩
  | succ m ih =>
    intro i t h hi R V
    rw [b_M_goNights_2, if_neg (nI_ge (by omega) he)]
    obtain ⟨h1, w1, w2, w3, w4, w5, w6⟩ := m_night (X := X) R V (-9)
    rw [w1, zbV_some, nI_add1]
    obtain ⟨h', u1, u2, u3, u4⟩ := ih (i + 1) _ h1 (by omega) w2 (night_V V (-9)).1
    exact ⟨h', u1, u2, by rw [u3, w5, Int32.add_assoc, nI_succ, Int32.add_comm 1], w6.tr u4⟩
theorem m_goNights (R : MR h t) (V : tV t) {e : Nat} (he : e < 2 ^ 31) : ∃ h', zcf X m_M_goNights [.ref 123, .int (nI e)] h = some (none, h') ∧ MR h' (nts t e) ∧ h'.1 123 6 = h.1 123 6 + nI e ∧ FS pN h h' := by
  rw [e_M_goNights]
  exact m_goF e he e 0 t h (Nat.zero_add _) R V
end zh29
