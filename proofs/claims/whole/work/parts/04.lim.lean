/-! what a run comes to: limits, and the equations of a run -/
def zPH : zP := (140, [(123, 33, 140), (123, 31, 139), (123, 28, 138), (123, 26, 137), (123, 25, 136), (123, 20, 135), (123, 19, 134), (123, 18, 133), (123, 17, 132), (123, 16, 131), (123, 11, 130), (123, 8, 129), (123, 5, 128), (123, 4, 127), (123, 3, 126), (123, 2, 125), (123, 1, 124), (14, 7, 117), (117, 4, 122), (117, 3, 121), (117, 2, 120), (117, 1, 119), (117, 0, 118), (14, 6, 111), (111, 4, 116), (111, 3, 115), (111, 2, 114), (111, 1, 113), (111, 0, 112), (14, 5, 105), (105, 4, 110), (105, 3, 109), (105, 2, 108), (105, 1, 107), (105, 0, 106), (14, 4, 99), (99, 4, 104), (99, 3, 103), (99, 2, 102), (99, 1, 101), (99, 0, 100), (14, 3, 93), (93, 4, 98), (93, 3, 97), (93, 2, 96), (93, 1, 95), (93, 0, 94), (14, 2, 87), (87, 4, 92), (87, 3, 91), (87, 2, 90), (87, 1, 89), (87, 0, 88), (14, 1, 81), (81, 4, 86), (81, 3, 85), (81, 2, 84), (81, 1, 83), (81, 0, 82), (14, 0, 75), (75, 4, 80), (75, 3, 79), (75, 2, 78), (75, 1, 77), (75, 0, 76), (1, 9, 74), (1, 7, 73), (1, 6, 71), (71, 0, 72), (1, 5, 21), (22, 7, 65), (65, 4, 70), (65, 3, 69), (65, 2, 68), (65, 1, 67), (65, 0, 66), (22, 6, 59), (59, 4, 64), (59, 3, 63), (59, 2, 62), (59, 1, 61), (59, 0, 60), (22, 5, 53), (53, 4, 58), (53, 3, 57), (53, 2, 56), (53, 1, 55), (53, 0, 54), (22, 4, 47), (47, 4, 52), (47, 3, 51), (47, 2, 50), (47, 1, 49), (47, 0, 48), (22, 3, 41), (41, 4, 46), (41, 3, 45), (41, 2, 44), (41, 1, 43), (41, 0, 42), (22, 2, 35), (35, 4, 40), (35, 3, 39), (35, 2, 38), (35, 1, 37), (35, 0, 36), (22, 1, 29), (29, 4, 34), (29, 3, 33), (29, 2, 32), (29, 1, 31), (29, 0, 30), (22, 0, 23), (23, 4, 28), (23, 3, 27), (23, 2, 26), (23, 1, 25), (23, 0, 24), (21, 0, 22), (1, 3, 15), (15, 4, 20), (15, 3, 19), (15, 2, 18), (15, 1, 17), (15, 0, 16), (1, 2, 14), (1, 1, 8), (8, 4, 13), (8, 3, 12), (8, 2, 11), (8, 1, 10), (8, 0, 9), (1, 0, 2), (2, 4, 7), (2, 3, 6), (2, 2, 5), (2, 1, 4), (2, 0, 3)])
theorem zst_mono {X : zX} {r : Nat} {k : zM} {C C' : zM → List Value → zP → zH → Option zR} (hC : ∀ m as p h x, C m as p h = some x → C' m as p h = some x) {s : zS} {y : zS ⊕ zR} : zst X r k C s = some y → zst X r k C' s = some y := by
  unfold zst
  cases decode (zb k) s.1 with
  | error e => exact id
  | ok q =>
    obtain ⟨i, len⟩ := q
    dsimp only
    cases zsim X k i len s with
    | some s' => exact id
    | none =>
      dsimp only
      cases zrtn k i len s with
      | some x => exact id
      | none =>
        dsimp only
        cases zinv k i len s with
        | none => exact id
        | some z =>
          obtain ⟨m, as, rest, t⟩ := z
          dsimp only
          by_cases hr : zrk m as < r
          · rw [if_pos hr, if_pos hr]
            cases hc : C m as s.2.2.2.1 s.2.2.2.2 with
            | none => intro h; cases h
            | some x => rw [hC _ _ _ _ _ hc]; exact id
          · rw [if_neg hr, if_neg hr]; exact id
theorem zex_mono {X : zX} {r : Nat} {k : zM} {C C' : zM → List Value → zP → zH → Option zR} (hC : ∀ m as p h x, C m as p h = some x → C' m as p h = some x) : ∀ (n n' : Nat) (s : zS) (x : zR), n ≤ n' → zex X r k C n s = some x → zex X r k C' n' s = some x := by
  intro n
  induction n with
  | zero => intro n' s x _ h; cases h
  | succ n ih =>
    intro n' s x hn h
    obtain ⟨m, rfl⟩ : ∃ m, n' = m + 1 := ⟨n' - 1, by omega⟩
    unfold zex at h ⊢
    cases hs : zst X r k C s with
    | none => rw [hs] at h; cases h
    | some y =>
      rw [hs] at h
      rw [zst_mono hC hs]
      cases y with
      | inl s' => exact ih m s' x (by omega) h
      | inr z => exact h
theorem zev_mono {X : zX} : ∀ (d n n' : Nat) (m : zM) (as : List Value) (p : zP) (h : zH) (x : zR), n ≤ n' → zev X d n m as p h = some x → zev X d n' m as p h = some x := by
  intro d
  induction d with
  | zero => intro n n' m as p h x _ q; cases q
  | succ d ih =>
    intro n n' m as p h x hn q
    unfold zev at q ⊢
    by_cases hl : (zla as).length ≤ zml m
    · rw [if_pos hl] at q ⊢
      exact zex_mono (fun m as p h x q => ih n n' m as p h x hn q) n n' _ x hn q
    · rw [if_neg hl] at q; cases q
theorem zst_congr {X : zX} {r : Nat} {k : zM} {C C' : zM → List Value → zP → zH → Option zR} (hC : ∀ m as p h, zrk m as < r → C m as p h = C' m as p h) (s : zS) : zst X r k C s = zst X r k C' s := by
  unfold zst
  cases decode (zb k) s.1 with
  | error e => rfl
  | ok q =>
    obtain ⟨i, len⟩ := q
    dsimp only
    cases zsim X k i len s with
    | some s' => rfl
    | none =>
      dsimp only
      cases zrtn k i len s with
      | some x => rfl
      | none =>
        dsimp only
        cases zinv k i len s with
        | none => rfl
        | some z =>
          obtain ⟨m, as, rest, t⟩ := z
          dsimp only
          by_cases hr : zrk m as < r
          · rw [if_pos hr, if_pos hr, hC _ _ _ _ hr]
          · rw [if_neg hr, if_neg hr]
theorem zex_congr {X : zX} {r : Nat} {k : zM} {C C' : zM → List Value → zP → zH → Option zR} (hC : ∀ m as p h, zrk m as < r → C m as p h = C' m as p h) : ∀ (n : Nat) (s : zS), zex X r k C n s = zex X r k C' n s := by
  intro n
  induction n with
  | zero => intro s; rfl
  | succ n ih =>
    intro s
    unfold zex
    rw [zst_congr hC s]
    cases zst X r k C' s with
    | none => rfl
    | some y =>
      cases y with
      | inl s' => exact ih s'
      | inr z => rfl
/-- the depth is enough: how much more doesn't matter -/
theorem zev_depth {X : zX} : ∀ (d d' n : Nat) (m : zM) (as : List Value) (p : zP) (h : zH), zrk m as < d → zrk m as < d' → zev X d n m as p h = zev X d' n m as p h := by
  intro d
  induction d with
  | zero => intro d' n m as p h h1; exact absurd h1 (Nat.not_lt_zero _)
  | succ d ih =>
    intro d' n m as p h h1 h2
    obtain ⟨e, rfl⟩ : ∃ e, d' = e + 1 := ⟨d' - 1, by omega⟩
    unfold zev
    rw [zex_congr (fun m' as' p' h' hr => ih e n m' as' p' h' (by omega) (by omega)) n _]
noncomputable def zlim {α : Type} (f : Nat → Option α) : Option α := @dite _ (∃ x, ∃ n, f n = some x) (Classical.propDecidable _) (fun h => some (Classical.choose h)) (fun _ => none)
theorem zlim_of {α : Type} {f : Nat → Option α} (hm : ∀ n n' x, n ≤ n' → f n = some x → f n' = some x) {n : Nat} {x : α} (h : f n = some x) : zlim f = some x := by
  unfold zlim
  have H : ∃ x, ∃ n, f n = some x := ⟨x, n, h⟩
  rw [dif_pos H]
  obtain ⟨n2, h2⟩ := Classical.choose_spec H
  have e1 := hm n (max n n2) x (Nat.le_max_left _ _) h
  have e2 := hm n2 (max n n2) _ (Nat.le_max_right _ _) h2
  rw [e1] at e2
  exact e2.symm
theorem zlim_some {α : Type} {f : Nat → Option α} {x : α} (h : zlim f = some x) : ∃ n, f n = some x := by
  unfold zlim at h
  by_cases H : ∃ x, ∃ n, f n = some x
  · rw [dif_pos H] at h
    obtain ⟨n2, h2⟩ := Classical.choose_spec H
    rw [Option.some.inj h] at h2
    exact ⟨n2, h2⟩
  · rw [dif_neg H] at h; cases h
theorem zlim_eq {α : Type} {f g : Nat → Option α} (hf : ∀ n n' x, n ≤ n' → f n = some x → f n' = some x) (hg : ∀ n n' x, n ≤ n' → g n = some x → g n' = some x) (h1 : ∀ n x, f n = some x → ∃ n', g n' = some x) (h2 : ∀ n x, g n = some x → ∃ n', f n' = some x) : zlim f = zlim g := by
  cases hz : zlim g with
  | none =>
    cases hy : zlim f with
    | none => rfl
    | some x =>
      obtain ⟨n, hn⟩ := zlim_some hy
      obtain ⟨n', hn'⟩ := h1 n x hn
      rw [zlim_of hg hn'] at hz
      cases hz
  | some x =>
    obtain ⟨n, hn⟩ := zlim_some hz
    obtain ⟨n', hn'⟩ := h2 n x hn
    exact zlim_of hf hn'
def zfr (o : Option zR) : Option (Option Value × zH) := match o with
  | some (v, p, h) => if p = zPH then some (v, h) else none
  | none => none
theorem zfr_some {o : Option zR} {x : Option Value × zH} (h : zfr o = some x) : o = some (x.1, zPH, x.2) := by
  unfold zfr at h
  cases o with
  | none => cases h
  | some y =>
    obtain ⟨v, p, q⟩ := y
    dsimp only at h
    by_cases hp : p = zPH
    · rw [if_pos hp] at h
      subst hp
      rw [← Option.some.inj h]
    · rw [if_neg hp] at h; cases h
theorem zfr_of {v : Option Value} {h : zH} : zfr (some (v, zPH, h)) = some (v, h) := by
  unfold zfr
  dsimp only
  rw [if_pos rfl]
theorem zfr_mono {o o' : Option zR} (h : ∀ x, o = some x → o' = some x) {y : Option Value × zH} (hy : zfr o = some y) : zfr o' = some y := by
  rw [h _ (zfr_some hy)]
  exact zfr_of
/-- a call, in the phase behind the constructors -/
noncomputable def zcf (X : zX) (m : zM) (as : List Value) (h : zH) : Option (Option Value × zH) := zlim fun n => zfr (zev X (zrk m as + 1) n m as zPH h)
noncomputable def zrn (X : zX) (r : Nat) (k : zM) (pc : Nat) (ls : zL) (st : List Value) (h : zH) : Option (Option Value × zH) := zlim fun n => zfr (zex X r k (zev X r n) n (pc, ls, st, zPH, h))
theorem zcf_mono {X : zX} {m : zM} {as : List Value} {h : zH} : ∀ n n' x, n ≤ n' → zfr (zev X (zrk m as + 1) n m as zPH h) = some x → zfr (zev X (zrk m as + 1) n' m as zPH h) = some x := fun n n' x hn q => zfr_mono (fun y hy => zev_mono _ n n' m as zPH h y hn hy) q
theorem zrn_mono {X : zX} {r : Nat} {k : zM} {s : zS} : ∀ n n' x, n ≤ n' → zfr (zex X r k (zev X r n) n s) = some x → zfr (zex X r k (zev X r n') n' s) = some x := fun n n' x hn q => zfr_mono (fun y hy => zex_mono (fun m as p h x q => zev_mono r n n' m as p h x hn q) n n' s y hn hy) q
/-- a call is a run from the method's beginning -/
theorem zcf_run {X : zX} {m : zM} {as : List Value} {h : zH} (hl : (zla as).length ≤ zml m) : zcf X m as h = zrn X (zrk m as) m 0 (zini m as) [] h := by
  have e : ∀ n, zev X (zrk m as + 1) n m as zPH h = zex X (zrk m as) m (zev X (zrk m as) n) n (0, zini m as, [], zPH, h) := fun n => if_pos hl
  exact zlim_eq zcf_mono zrn_mono (fun n x hx => ⟨n, by rw [← e]; exact hx⟩) (fun n x hx => ⟨n, by rw [e]; exact hx⟩)
theorem rn_s {X : zX} {r : Nat} {k : zM} {pc pc' len : Nat} {ls ls' : zL} {st st' : List Value} {h h' : zH} {i : Instr} (hd : decode (zb k) pc = .ok (i, len)) (hs : zsim X k i len (pc, ls, st, zPH, h) = some (pc', ls', st', zPH, h')) : zrn X r k pc ls st h = zrn X r k pc' ls' st' h' := by
  have hz : ∀ C, zst X r k C (pc, ls, st, zPH, h) = some (.inl (pc', ls', st', zPH, h')) := fun C => by
    unfold zst
    dsimp only
    rw [hd]
    dsimp only
    rw [hs]
    exact if_pos (Nat.le_refl _)
  refine zlim_eq zrn_mono zrn_mono (fun n x hx => ?_) (fun n x hx => ⟨n + 1, ?_⟩)
  · cases n with
    | zero => cases hx
    | succ n =>
      refine ⟨n + 1, ?_⟩
      unfold zex at hx
      rw [hz] at hx
      exact zfr_mono (fun y hy => zex_mono (fun _ _ _ _ _ q => q) n (n + 1) _ y (Nat.le_succ n) hy) hx
  · unfold zex
    rw [hz]
    exact zfr_mono (fun y hy => zex_mono (fun m as p h x q => zev_mono r n (n + 1) m as p h x (Nat.le_succ n) q) n n _ y (Nat.le_refl n) hy) hx
theorem rn_r {X : zX} {r : Nat} {k : zM} {pc len : Nat} {ls : zL} {st : List Value} {h : zH} {i : Instr} {v : Option Value} (hd : decode (zb k) pc = .ok (i, len)) (hs : zsim X k i len (pc, ls, st, zPH, h) = none) (hr : zrtn k i len (pc, ls, st, zPH, h) = some (v, zPH, h)) : zrn X r k pc ls st h = some (v, h) := by
  refine zlim_of (n := 1) zrn_mono ?_
  unfold zex zst
  dsimp only
  rw [hd]
  dsimp only
  rw [hs]
  dsimp only
  rw [hr]
  exact zfr_of
theorem rn_n {X : zX} {r : Nat} {k : zM} {pc len : Nat} {ls : zL} {st : List Value} {h : zH} {i : Instr} (hd : decode (zb k) pc = .ok (i, len)) (hs : zsim X k i len (pc, ls, st, zPH, h) = none) (hr : zrtn k i len (pc, ls, st, zPH, h) = none) (hi : zinv k i len (pc, ls, st, zPH, h) = none) : zrn X r k pc ls st h = none := by
  cases hz : zrn X r k pc ls st h with
  | none => rfl
  | some x =>
    obtain ⟨n, hn⟩ := zlim_some hz
    cases n with
    | zero => cases hn
    | succ n =>
      unfold zex zst at hn
      dsimp only at hn
      rw [hd] at hn
      dsimp only at hn
      rw [hs] at hn
      dsimp only at hn
      rw [hr] at hn
      dsimp only at hn
      rw [hi] at hn
      cases hn
def zbd (o : Option (Option Value × zH)) (f : Option Value → zH → Option (Option Value × zH)) : Option (Option Value × zH) := match o with | some (v, h) => f v h | none => none
theorem rn_c {X : zX} {r : Nat} {k : zM} {pc len : Nat} {ls : zL} {st rest : List Value} {h : zH} {i : Instr} {m : zM} {as : List Value} (hd : decode (zb k) pc = .ok (i, len)) (hs : zsim X k i len (pc, ls, st, zPH, h) = none) (hr : zrtn k i len (pc, ls, st, zPH, h) = none) (hi : zinv k i len (pc, ls, st, zPH, h) = some (m, as, rest, false)) (hk : zrk m as < r) : zrn X r k pc ls st h = zbd (zcf X m as h) fun v h' => zrn X r k (pc + 3) ls (v.toList ++ rest) h' := by
  have hz : ∀ C, zst X r k C (pc, ls, st, zPH, h) = match C m as zPH h with
      | some (v, p', h') => if zPH.1 ≤ p'.1 ∧ (false = true ∨ p' = zPH) then some (.inl (pc + 3, ls, v.toList ++ rest, p', h')) else none
      | none => none := fun C => by
    unfold zst
    dsimp only
    rw [hd]
    dsimp only
    rw [hs]
    dsimp only
    rw [hr]
    dsimp only
    rw [hi]
    dsimp only
    rw [if_pos hk]
    cases C m as zPH h <;> rfl
  have hzz : ∀ (C : zM → List Value → zP → zH → Option zR) (v : Option Value) (h' : zH), C m as zPH h = some (v, zPH, h') → zst X r k C (pc, ls, st, zPH, h) = some (.inl (pc + 3, ls, v.toList ++ rest, zPH, h')) := fun C v h' hc => by
    rw [hz, hc]
    dsimp only
    rw [if_pos ⟨Nat.le_refl _, Or.inr rfl⟩]
  have dep : ∀ n, zev X r n m as zPH h = zev X (zrk m as + 1) n m as zPH h := fun n => zev_depth r _ n m as zPH h hk (Nat.lt_succ_self _)
  cases hy : zrn X r k pc ls st h with
  | some x =>
    obtain ⟨n, hn⟩ := zlim_some hy
    cases n with
    | zero => cases hn
    | succ n =>
      have hn' := zfr_some hn
      unfold zex at hn'
      rw [hz] at hn'
      cases hc : zev X r (n + 1) m as zPH h with
      | none => rw [hc] at hn'; cases hn'
      | some z =>
        obtain ⟨v, p', h'⟩ := z
        rw [hc] at hn'
        dsimp only at hn'
        by_cases hg : zPH.1 ≤ p'.1 ∧ (false = true ∨ p' = zPH)
        · rw [if_pos hg] at hn'
          obtain ⟨-, hg | hg⟩ := hg
          · cases hg
          · subst hg
            dsimp only at hn'
            have e1 : zcf X m as h = some (v, h') := zlim_of (n := n + 1) zcf_mono (by rw [← dep, hc]; exact zfr_of)
            have e2 : zrn X r k (pc + 3) ls (v.toList ++ rest) h' = some x := zlim_of (n := n + 1) zrn_mono (by rw [zex_mono (fun _ _ _ _ _ q => q) n (n + 1) _ _ (Nat.le_succ n) hn']; exact zfr_of)
            rw [e1]
            exact e2.symm
        · rw [if_neg hg] at hn'; cases hn'
  | none =>
    cases hc : zcf X m as h with
    | none => rfl
    | some z =>
      obtain ⟨v, h'⟩ := z
      show none = zrn X r k (pc + 3) ls (v.toList ++ rest) h'
      cases hq : zrn X r k (pc + 3) ls (v.toList ++ rest) h' with
      | none => rfl
      | some x =>
        obtain ⟨n1, h1⟩ := zlim_some hc
        obtain ⟨n2, h2⟩ := zlim_some hq
        have h1' := zev_mono _ n1 (max n1 n2 + 1) m as zPH h _ (by omega) (zfr_some h1)
        have e : zrn X r k pc ls st h = some x := zlim_of (n := max n1 n2 + 1) zrn_mono (by
          unfold zex
          rw [hzz _ v h' (by rw [dep]; exact h1')]
          exact zfr_mono (fun y hy => zex_mono (fun m as p h x q => zev_mono r n2 (max n1 n2 + 1) m as p h x (by omega) q) n2 (max n1 n2) _ y (by omega) hy) h2)
        rw [hy] at e
        exact e
