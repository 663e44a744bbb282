/-! two, the model's side -/
def rsP (val : Nat → Nat → Int32) (x i : Nat) : Bool := !(decide (val (x / 5) (x % 5) < val i (x % 5)))
def rsQ (val : Nat → Nat → Int32) (x i : Nat) : Bool := decide (val (x / 5) i < 0) || !(decide (val (x / 5) i < val (x / 5) (x % 5)))
theorem lay_nc {I : Nat → Nat → Int32} {b j c : Nat} {v : Int32} (hb : 128 < b) : lay (zup I b j v) c = lay I c := by
  unfold lay
  split
  · exact zup_nc (by omega)
  · split
    · exact zup_nc (by omega)
    · exact zup_nc (by omega)
theorem v_01 : ¬ (1 : Int32) < 0 ∧ ¬ (1 : Int32) < 1 ∧ (0 : Int32) < 1 ∧ ¬ (0 : Int32) < 0 ∧ (-1 : Int32) < 0 ∧ (-1 : Int32) < 1 ∧ ¬ (1 : Int32) < -1 ∧ ¬ (0 : Int32) < -1 := by decide
section z58
variable {X : zX} {h h0 : zH} {w : zW} {mx mm : zM} {as : List Value} {t : zT} {a : Nat}
theorem BK.go (K : BK h0 h) {b j : Nat} {v : Int32} (hb : b = 140) : BK h0 (zup h.1 b j v, h.2) := ⟨K.1.go (FM.up (by unfold pT pS; omega)), fun c hc => by dsimp only; rw [lay_nc (by omega)]; exact K.2 c hc⟩
theorem TH.bkF (T : TH h0 t h) : ∃ h1, zcf X m_M_again [.ref 123] h = some (none, h1) ∧ BK h0 h1 ∧ ∀ b j, 128 < b → h1.1 b j = h.1 b j := by
  rw [e_M_again]
  obtain ⟨h1, w1, S⟩ := m_putAll (X := X) (h := h) (q := 133) (by decide) zc_134
  rw [w1, zbV_some]
  obtain ⟨t1, t2, t3, t4, t5⟩ := S
  have f : FM pT h h1 := fun b j hb => t5 b j (fun z => hb (by unfold pT pS; omega)) (fun z => hb (by unfold pT pS; omega))
  exact ⟨h1, rfl, ⟨T.2.1.go f, fun j hj => (t4 j hj).trans (T.2.1.1 j hj)⟩, fun b j hb => t5 b j (by omega) (by omega)⟩
theorem m_twF (R0 : MP h0 w) (V : WV w) {p q : Nat} (hp : p < tn (wt w)) (hq : q < tn (wt w)) (hne : p ≠ q) : ∀ (m x : Nat) (h : zH) (g4 : Option Value), x + m = 20 → BK h0 h → (∀ j, j < x → h.1 140 j = twV (wt w) p q (j / 5) (j % 5)) → ∃ h' g4', zrn X 4 m_M_two 26 [some (.ref 123), some (.int (nI p)), some (.int (nI q)), some (.int (nI x)), g4] [] h = zrn X 4 m_M_two 112 [some (.ref 123), some (.int (nI p)), some (.int (nI q)), some (.int 0), g4'] [] h' ∧ BK h0 h' ∧ ∀ j, j < 20 → h'.1 140 j = twV (wt w) p q (j / 5) (j % 5) := by
  have h6 : tn (wt w) ≤ 6 := V.1.1.1
  intro m
  induction m with
  | zero =>
    intro x h g4 hx K hj
    exact ⟨h, g4, by rw [b_M_two_26, if_pos (show (20 : Int32) ≤ nI x from nI_le (a := 20) (by omega) (by omega))], K, fun j hj2 => hj j (by omega)⟩
  | succ m ih =>
    intro x h g4 hx K hj
    have T := K.th R0 V
    obtain ⟨d1, d2⟩ := d20 x (by omega)
    have hs : x % 5 < 5 := Nat.mod_lt _ (by decide)
    have hf : x / 5 < 4 := by omega
    have zx := zin_nI (p := x) (n := 20) (by omega) (by decide)
    rw [b_M_two_26, if_neg (show ¬ (20 : Int32) ≤ nI x from nI_ge (b := 20) (by omega) (by omega)), d1, d2, m_stepFrom T.1 V.1.1 hq hs, zbI_some, if_pos zx, nI_clamp (by omega), nI_add1]
    by_cases fr : stC (wt w) q (nI (x % 5)) = -1
    · have nb : ¬ besA (wt w) q (x % 5) = true := by unfold besA; simp [fr]
      rw [if_pos fr, if_pos (show (-9 : Int32) < 0 by decide)]
      refine ih (x + 1) (zup h.1 140 x (-1), h.2) _ (by omega) (K.go rfl) fun j hj2 => ?_
      dsimp only
      by_cases e : j = x
      · rw [e, zup_eq]
        unfold twV
        rw [if_neg nb]
      · rw [zup_ns e]
        exact hj j (by omega)
    · have nb : besA (wt w) q (x % 5) = true := by unfold besA; exact decide_eq_true fr
      have cr : rg (stC (wt w) q (nI (x % 5))) 36 := by
        rcases stC_rg (t := wt w) V.1.1 hq hs with z | z
        · exact absurd z fr
        · exact z
      have cn : ¬ stC (wt w) q (nI (x % 5)) < 0 := fun z => by
        rw [rg_of (by decide)] at cr
        exact absurd (lt0_iff.mp z) (by omega)
      have V1 : tV (twT (wt w) p q (x / 5) (x % 5)) := twT_V V.1.1 hq hs hf nb
      have T0 : TH h0 (wt w) (zup h.1 140 x (-1), h.2) := (K.go (j := x) (v := -1) rfl).th R0 V
      have T1 : TH h0 (twT (wt w) p q (x / 5) (x % 5)) (zup (zup (zup h.1 140 x (-1)) 126 q (stC (wt w) q (nI (x % 5)))) 127 p (nI (x / 5)), h.2) := T0.go (MR.uD (MR.uC T0.1)) (fun b j hb => by
        dsimp only
        rw [zup_nc (fun z => hb (by unfold pT pS; omega)), zup_nc (fun z => hb (by unfold pT pS; omega))]) V1
      have hp1 : p < tn (twT (wt w) p q (x / 5) (x % 5)) := hp
      rw [if_neg fr, if_neg cn, if_pos (zin_nI (show q < 7 by omega) (by decide)), if_pos (zin_nI (show p < 7 by omega) (by decide)), nI_clamp (show q < 2 ^ 31 by omega), nI_clamp (show p < 2 ^ 31 by omega), m_aheadOf T1.1 V1 hp1, zbI_some, m_lensOf T1.1 V1 hp1, zbI_some, if_pos zx, if_pos zx]
      have fin : ∀ v, v = twV (wt w) p q (x / 5) (x % 5) → ∃ h' g4', (zbV (zcf X m_M_again [.ref 123] (zup (zup (zup (zup h.1 140 x (-1)) 126 q (stC (wt w) q (nI (x % 5)))) 127 p (nI (x / 5))) 140 x v, h.2)) fun h5 => zrn X 4 m_M_two 26 [some (.ref 123), some (.int (nI p)), some (.int (nI q)), some (.int (nI (x + 1))), some (.int (stC (wt w) q (nI (x % 5))))] [] h5) = zrn X 4 m_M_two 112 [some (.ref 123), some (.int (nI p)), some (.int (nI q)), some (.int 0), g4'] [] h' ∧ BK h0 h' ∧ ∀ j, j < 20 → h'.1 140 j = twV (wt w) p q (j / 5) (j % 5) := by
        intro v hv
        have T2 : TH h0 (twT (wt w) p q (x / 5) (x % 5)) (zup (zup (zup (zup h.1 140 x (-1)) 126 q (stC (wt w) q (nI (x % 5)))) 127 p (nI (x / 5))) 140 x v, h.2) := T1.go (T1.1.cel (Or.inr (by decide))) (fun b j hb => by
          dsimp only
          rw [zup_nc (b := b) (a := 140) (fun z => hb (by unfold pT pS; omega))]) V1
        obtain ⟨h1, a1, a2, a3⟩ := T2.bkF (X := X)
        rw [a1, zbV_some]
        refine ih (x + 1) h1 _ (by omega) a2 fun j hj2 => ?_
        rw [a3 140 j (by decide)]
        dsimp only
        by_cases e : j = x
        · rw [e, zup_eq, hv]
        · rw [zup_ns e, zup_nc (by decide), zup_nc (by decide), zup_ns e]
          exact hj j (by omega)
      by_cases al : ahd (twT (wt w) p q (x / 5) (x % 5)) p = nI q
      · rw [if_pos al]
        refine fin 1 ?_
        unfold twV
        rw [if_pos nb, if_pos (show twS (wt w) p q (x / 5) (x % 5) = true by unfold twS; exact decide_eq_true (Or.inl al))]
      · rw [if_neg al]
        refine fin _ ?_
        unfold twV
        rw [if_pos nb]
        by_cases l : lns (twT (wt w) p q (x / 5) (x % 5)) p = nI q
        · rw [if_pos l, if_pos (show twS (wt w) p q (x / 5) (x % 5) = true by unfold twS; exact decide_eq_true (Or.inr l))]
        · rw [if_neg l, if_neg (show ¬ twS (wt w) p q (x / 5) (x % 5) = true by unfold twS; simp [al, l])]
theorem m_rsA {val : Nat → Nat → Int32} {x : Nat} (hx : x < 20) (H : ∀ j, j < 20 → h.1 140 j = val (j / 5) (j % 5)) : ∀ (m i : Nat) (b : Bool), i + m = 4 → zrn X 0 m_M_areResting 27 [some (.ref 123), some (.int (nI x)), some (.int (nI (x / 5))), some (.int (nI (x % 5))), some (.int (if b = true then 1 else 0)), some (.int (nI i)), none] [] h = zrn X 0 m_M_areResting 74 [some (.ref 123), some (.int (nI x)), some (.int (nI (x / 5))), some (.int (nI (x % 5))), some (.int (if allF (rsP val x) m i b = true then 1 else 0)), some (.int 0), none] [] h := by
  intro m
  induction m with
  | zero =>
    intro i b hi
    rw [b_M_areResting_27, if_pos (show (4 : Int32) ≤ nI i from nI_le (a := 4) (by omega) (by omega))]
    rfl
  | succ m ih =>
    intro i b hi
    rw [b_M_areResting_27, if_neg (show ¬ (4 : Int32) ≤ nI i from nI_ge (b := 4) (by omega) (by omega)), nI_add1]
    cases b
    · rw [if_pos (show (if false = true then (1 : Int32) else 0) = 0 from rfl), allF_0]
      have := ih (i + 1) false (by omega)
      rw [allF_0] at this
      exact this
    · have e1 : (5 * i + x % 5) / 5 = i := by omega
      have e2 : (5 * i + x % 5) % 5 = x % 5 := by omega
      rw [if_neg (show ¬ (if true = true then (1 : Int32) else 0) = 0 by decide), (d45 i (by omega) (x % 5) (Nat.mod_lt _ (by decide))).2, if_pos (zin_nI (show 5 * i + x % 5 < 20 by omega) (by decide)), if_pos (zin_nI hx (by decide)), nI_clamp (by omega), nI_clamp (by omega), H x hx, H _ (by omega), e1, e2, allF_s, if_pos (show true = true from rfl), ← ih (i + 1) (rsP val x i) (by omega)]
      by_cases z : val (x / 5) (x % 5) < val i (x % 5)
      · rw [if_pos z, if_neg (show ¬ rsP val x i = true by unfold rsP; simp [z])]
      · rw [if_neg z, if_pos (show rsP val x i = true by unfold rsP; simp [z])]
theorem m_rsB {val : Nat → Nat → Int32} {x : Nat} (hx : x < 20) (H : ∀ j, j < 20 → h.1 140 j = val (j / 5) (j % 5)) : ∀ (m i : Nat) (b : Bool) (g6 : Option Value), i + m = 5 → zrn X 0 m_M_areResting 74 [some (.ref 123), some (.int (nI x)), some (.int (nI (x / 5))), some (.int (nI (x % 5))), some (.int (if b = true then 1 else 0)), some (.int (nI i)), g6] [] h = some (some (.int (if allF (rsQ val x) m i b = true then 1 else 0)), h) := by
  intro m
  induction m with
  | zero =>
    intro i b g6 hi
    rw [b_M_areResting_74, if_pos (show (5 : Int32) ≤ nI i from nI_le (a := 5) (by omega) (by omega))]
    cases b
    · rfl
    · rfl
  | succ m ih =>
    intro i b g6 hi
    have e1 : (5 * (x / 5) + i) / 5 = x / 5 := by omega
    have e2 : (5 * (x / 5) + i) % 5 = i := by omega
    rw [b_M_areResting_74, if_neg (show ¬ (5 : Int32) ≤ nI i from nI_ge (b := 5) (by omega) (by omega)), (d45 (x / 5) (by omega) i (by omega)).2, if_pos (zin_nI (show 5 * (x / 5) + i < 20 by omega) (by decide)), nI_add1]
    cases b
    · rw [if_pos (show (if false = true then (1 : Int32) else 0) = 0 from rfl), allF_0]
      have := ih (i + 1) false (some (.int (h.1 140 (Int32.toNatClampNeg (nI (5 * (x / 5) + i)))))) (by omega)
      rw [allF_0] at this
      exact this
    · rw [if_neg (show ¬ (if true = true then (1 : Int32) else 0) = 0 by decide), if_pos (zin_nI hx (by decide)), nI_clamp (by omega), nI_clamp (by omega), H x hx, H _ (by omega), e1, e2, allF_s, if_pos (show true = true from rfl)]
      have k := ih (i + 1) (rsQ val x i) (some (.int (val (x / 5) i))) (by omega)
      by_cases n : val (x / 5) i < 0
      · have r : rsQ val x i = true := by unfold rsQ; simp [n]
        rw [if_pos n]
        rw [r] at k ⊢
        exact k
      · rw [if_neg n]
        by_cases z : val (x / 5) i < val (x / 5) (x % 5)
        · have r : rsQ val x i = false := by unfold rsQ; simp [n, z]
          rw [if_pos z]
          rw [r] at k ⊢
          exact k
        · have r : rsQ val x i = true := by unfold rsQ; simp [z]
          rw [if_neg z]
          rw [r] at k ⊢
          exact k
theorem rs_eq {p q x : Nat} (hx : x < 20) : (allF (rsQ (twV t p q) x) 5 0 (allF (rsP (twV t p q) x) 4 0 (if twV t p q (x / 5) (x % 5) < 0 then false else true))) = twR t p q x := by
  obtain ⟨v1, v2, v3, v4, v5, v6, v7, v8⟩ := v_01
  have hv : ∀ f s, (besA t q s = true ∧ twS t p q f s = true ∧ twV t p q f s = 1) ∨ (besA t q s = true ∧ twS t p q f s = false ∧ twV t p q f s = 0) ∨ (besA t q s = false ∧ twV t p q f s = -1) := by
    intro f s
    unfold twV
    cases besA t q s
    · exact Or.inr (Or.inr ⟨rfl, rfl⟩)
    · cases twS t p q f s
      · exact Or.inr (Or.inl ⟨rfl, rfl, rfl⟩)
      · exact Or.inl ⟨rfl, rfl, rfl⟩
  unfold twR
  rcases hv (x / 5) (x % 5) with ⟨b, s, v⟩ | ⟨b, s, v⟩ | ⟨b, v⟩
  · rw [b, s, v, if_neg v1, if_pos rfl, Bool.true_and]
    have e1 : allF (rsP (twV t p q) x) 4 0 true = true := (allF_iff _ _ _).mpr ⟨rfl, fun i _ _ => by
      unfold rsP
      rw [v]
      rcases hv i (x % 5) with ⟨-, -, u⟩ | ⟨-, -, u⟩ | ⟨-, u⟩ <;> rw [u] <;> simp [v2, v1, v7]⟩
    rw [e1]
    have : ∀ i, rsQ (twV t p q) x i = twA t p q (x / 5) i := fun i => by
      unfold rsQ twA
      rw [v]
      rcases hv (x / 5) i with ⟨b1, s1, u⟩ | ⟨b1, s1, u⟩ | ⟨b1, u⟩
      · rw [u, b1, s1]; rfl
      · rw [u, b1, s1]; rfl
      · rw [u, b1]; rfl
    rw [show rsQ (twV t p q) x = twA t p q (x / 5) from funext this]
  · rw [b, s, v, if_neg v4, if_neg hFT, Bool.true_and]
    have e1 : ∀ i, rsP (twV t p q) x i = twN t p q (x % 5) i := fun i => by
      unfold rsP twN
      rw [v]
      rcases hv i (x % 5) with ⟨b1, s1, u⟩ | ⟨b1, s1, u⟩ | ⟨b1, u⟩
      · rw [u, s1]; rfl
      · rw [u, s1]; rfl
      · rw [b] at b1; exact absurd b1 hTF
    rw [show rsP (twV t p q) x = twN t p q (x % 5) from funext e1]
    have e2 : ∀ i, rsQ (twV t p q) x i = true := fun i => by
      unfold rsQ
      rw [v]
      rcases hv (x / 5) i with ⟨b1, s1, u⟩ | ⟨b1, s1, u⟩ | ⟨b1, u⟩ <;> rw [u] <;> rfl
    cases c : allF (twN t p q (x % 5)) 4 0 true
    · rw [allF_0]
    · exact (allF_iff _ _ _).mpr ⟨rfl, fun i _ _ => e2 i⟩
  · rw [b, v, if_pos v5, Bool.false_and, allF_0, allF_0]
theorem m_resting {p q x : Nat} (hx : x < 20) (H : ∀ j, j < 20 → h.1 140 j = twV t p q (j / 5) (j % 5)) : zcf X m_M_areResting [.ref 123, .int (nI x)] h = some (some (.int (if twR t p q x = true then 1 else 0)), h) := by
  obtain ⟨d1, d2⟩ := d20 x hx
  have e : (if h.1 140 x < 0 then (0 : Int32) else 1) = (if (if twV t p q (x / 5) (x % 5) < 0 then false else true) = true then 1 else 0) := by
    rw [H x hx]
    by_cases z : twV t p q (x / 5) (x % 5) < 0
    · rw [if_pos z, if_pos z, if_neg hFT]
    · rw [if_neg z, if_neg z, if_pos rfl]
  rw [e_M_areResting, if_pos (zin_nI hx (by decide)), nI_clamp (by omega), d1, d2, e, show zrn X 0 m_M_areResting 27 [some (.ref 123), some (.int (nI x)), some (.int (nI (x / 5))), some (.int (nI (x % 5))), some (.int (if (if twV t p q (x / 5) (x % 5) < 0 then false else true) = true then 1 else 0)), some (.int 0), none] [] h = _ from m_rsA hx H 4 0 _ rfl, show zrn X 0 m_M_areResting 74 [some (.ref 123), some (.int (nI x)), some (.int (nI (x / 5))), some (.int (nI (x % 5))), some (.int (if allF (rsP (twV t p q) x) 4 0 (if twV t p q (x / 5) (x % 5) < 0 then false else true) = true then 1 else 0)), some (.int 0), none] [] h = _ from m_rsB hx H 5 0 _ none rfl, rs_eq hx]
theorem m_twS {p q : Nat} (H : ∀ j, j < 20 → h.1 140 j = twV t p q (j / 5) (j % 5)) {g4 : Option Value} : ∀ (m x : Nat), x + m = 20 → zrn X 4 m_M_two 112 [some (.ref 123), some (.int (nI p)), some (.int (nI q)), some (.int (nI x)), g4] [] h = some (some (.int (selF (twR t p q) m x)), h) := by
  intro m
  induction m with
  | zero =>
    intro x hx
    rw [b_M_two_112, if_pos (show (20 : Int32) ≤ nI x from nI_le (a := 20) (by omega) (by omega))]
    rfl
  | succ m ih =>
    intro x hx
    obtain ⟨d1, d2⟩ := d20 x (by omega)
    rw [b_M_two_112, if_neg (show ¬ (20 : Int32) ≤ nI x from nI_ge (b := 20) (by omega) (by omega)), m_resting (by omega) H, zbI_some, d1, d2, nI_add1, selF_s]
    by_cases r : twR t p q x = true
    · rw [if_pos r, if_pos r, if_neg (show ¬ (1 : Int32) = 0 by decide)]
    · rw [if_neg r, if_neg r, if_pos (show (0 : Int32) = 0 from rfl)]
      exact ih (x + 1) (by omega)
theorem ok_two (hX : XP h w) (hM : MP h w) (V : WV w) {x y : Int32} : OK2 X m_X_two m_M_two [.int x, .int y] h := by
  have h6 : tn (wt w) ≤ 6 := V.1.1.1
  refine OK2.a2 (A := fun h1 => zrn X 4 m_X_two 20 [some (.ref 1), some (.int x), some (.int y), some (.int 0), some (.int 0), none, none] [] h1) (B := fun h1 => (zbV (zcf X m_M_think [.ref 123] h1) fun h5 => zrn X 4 m_M_two 26 [some (.ref 123), some (.int x), some (.int y), some (.int 0), none] [] h5)) hX hM V e_X_two (fun _ => e_M_two) fun p q hp hq hne e1 e2 => ⟨selF (twR (wt w) p q) 20 0, ?_, fun H R => ?_⟩
  · obtain ⟨steps, a1, a2⟩ := s_twA (X := X) (p := p) (h := h) (t := wt w) hX.1.1 V.1.1 hq 5 0 0 rfl
    obtain ⟨h1, b1, b2⟩ := s_mind (X := X) hX V
    obtain ⟨h2, seen, c1, c2, c3⟩ := s_twG (X := X) (p := p) (q := q) (t := wt w) hX.1.1 V.1.1 hp hq 5 0 (wt w) h1 0 none none none rfl b2 rfl (fun _ _ => rfl)
    have B : twB (wt w) p q seen steps := ⟨fun f s hf hs => by
      rw [c3 f s hf hs]
      exact ⟨fun k => k.2 (Nat.zero_le _), fun k => ⟨i_0and _, fun _ => k⟩⟩, fun s hs => by
      rw [a2 s hs]
      exact ⟨fun k => k.2 (Nat.zero_le _), fun k => ⟨i_0and _, fun _ => k⟩⟩⟩
    refine ⟨h2, ?_, c2⟩
    rw [e1, e2, show zrn X 4 m_X_two 20 [some (.ref 1), some (.int (nI p)), some (.int (nI q)), some (.int 0), some (.int 0), none, none] [] h = _ from a1, e_X_stepsSeenByFaces, b1, zbV_some, show zrn X 3 m_X_stepsSeenByFaces 16 [some (.ref 1), some (.int (nI p)), some (.int (nI q)), some (.int 0), some (.int 0), none, none, none] [] h1 = _ from c1, zbI_some, b_X_two_69, if_neg (show ¬ (4 : Int32) ≤ 0 by decide)]
    exact s_twS (X := X) (h := h2) B 19 0 0 rfl (by decide)
  · obtain ⟨h1, a1, a2⟩ := m_think2 (X := X) H
    obtain ⟨h2, g4', b1, b2, b3⟩ := m_twF (X := X) R V hp hq hne 20 0 h1 none rfl a2 (fun j hj => by omega)
    refine ⟨h2, ?_, b2.mp R V, b2.pM⟩
    rw [e1, e2, a1, zbV_some, show zrn X 4 m_M_two 26 [some (.ref 123), some (.int (nI p)), some (.int (nI q)), some (.int 0), none] [] h1 = _ from b1]
    exact m_twS (X := X) b3 20 0 rfl
end z58
