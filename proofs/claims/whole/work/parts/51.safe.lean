/-! safe, alone, most, bestStep -/
theorem zua_zua {A : zA} {p : Nat} {u v : Int32} : zua (zua A p u) p v = zua A p v := by
  funext q
  unfold zua
  by_cases e : q = p
  · rw [if_pos e, if_pos e]
  · rw [if_neg e, if_neg e, if_neg e]
theorem wD_wD {t : zT} {p : Nat} {u v : Int32} : wD (wD t p u) p v = wD t p v := by
  show (_, _, _, _, zua (zua _ p u) p v, _) = _
  rw [zua_zua]
  rfl
theorem wC_wC {t : zT} {p : Nat} {u v : Int32} : wC (wC t p u) p v = wC t p v := by
  show (_, _, _, zua (zua _ p u) p v, _, _) = _
  rw [zua_zua]
  rfl
theorem zup_zup {I : Nat → Nat → Int32} {a j : Nat} {u v : Int32} : zup (zup I a j u) a j v = zup I a j v := by
  funext b i
  unfold zup
  by_cases e : b = a ∧ i = j
  · rw [if_pos e, if_pos e]
  · rw [if_neg e, if_neg e, if_neg e]
theorem zup_id {I : Nat → Nat → Int32} {a j : Nat} {v : Int32} (h : I a j = v) : zup I a j v = I := by
  funext b i
  unfold zup
  by_cases e : b = a ∧ i = j
  · rw [if_pos e, e.1, e.2, h]
  · rw [if_neg e]
theorem neg9 {x : Int32} {n : Nat} (hn : n ≤ 6) (h : x = -9 ∨ ∃ q, q < n ∧ x = nI q) : (x < 0 ↔ x = -9) ∧ (0 ≤ x ↔ x ≠ -9) := by
  rcases h with h | ⟨q, hq, h⟩
  · rw [h]; decide
  · rw [h]
    have : ∀ q, q < 6 → (nI q < 0 ↔ nI q = -9) ∧ (0 ≤ nI q ↔ nI q ≠ -9) := by decide
    exact this q (by omega)
/-- up: bits of those that are so, and the first that is also thus; down: the same from behind -/
def sfU (L A : Nat → Bool) : Nat → Nat → Int32 → Int32 → Int32 × Int32
  | 0, _, b, g => (b, g)
  | m + 1, f, b, g => sfU L A m (f + 1) (if L f = true then b ||| bt f else b) (if L f = true then (if g = -9 then (if A f = true then nI f else g) else g) else g)
def sfD (L A : Nat → Bool) : Nat → Int32 → Int32 → Int32 × Int32
  | 0, b, g => (b, g)
  | m + 1, b, g => sfD L A m (b ||| (if L m = true then bt m else 0)) (if L m = true then (if A m = true then nI m else g) else g)
theorem sfU_s {L A : Nat → Bool} {m f : Nat} {b g : Int32} : sfU L A (m + 1) f b g = sfU L A m (f + 1) (if L f = true then b ||| bt f else b) (if L f = true then (if g = -9 then (if A f = true then nI f else g) else g) else g) := rfl
theorem sfD_s {L A : Nat → Bool} {m : Nat} {b g : Int32} : sfD L A (m + 1) b g = sfD L A m (b ||| (if L m = true then bt m else 0)) (if L m = true then (if A m = true then nI m else g) else g) := rfl
theorem sf_eq (L A : Nat → Bool) : sfU L A 4 0 0 (-9) = sfD L A 4 0 (-9) := by
  simp only [sfU, sfD]
  generalize L 0 = a
  generalize L (0 + 1) = b
  generalize L (0 + 1 + 1) = c
  generalize L (0 + 1 + 1 + 1) = d
  generalize A 0 = e
  generalize A 1 = f
  generalize A 2 = g
  generalize A 3 = i
  revert a b c d e f g i
  decide +kernel
/-- so many and the first, up and down -/
def alU (G : Nat → Bool) : Nat → Nat → Int32 → Int32 → Int32 × Int32
  | 0, _, a, l => (a, l)
  | m + 1, c, a, l => alU G m (c + 1) (if G c = true then a + 1 else a) (if G c = true then (if l = -9 then nI c else l) else l)
def alD (G : Nat → Bool) : Nat → Int32 → Int32 → Int32 × Int32
  | 0, a, l => (a, l)
  | m + 1, a, l => alD G m (a + (if G m = true then 1 else 0)) (if G m = true then nI m else l)
theorem alU_s {G : Nat → Bool} {m c : Nat} {a l : Int32} : alU G (m + 1) c a l = alU G m (c + 1) (if G c = true then a + 1 else a) (if G c = true then (if l = -9 then nI c else l) else l) := rfl
theorem alD_s {G : Nat → Bool} {m : Nat} {a l : Int32} : alD G (m + 1) a l = alD G m (a + (if G m = true then 1 else 0)) (if G m = true then nI m else l) := rfl
theorem ne9 {c : Nat} (h : c < 36) : nI c ≠ -9 := (by decide : ∀ c, c < 36 → nI c ≠ -9) c h
/-- one more at the end -/
theorem alU_end {G : Nat → Bool} : ∀ (m c : Nat) (a l : Int32), alU G (m + 1) c a l = ((alU G m c a l).1 + (if G (c + m) = true then 1 else 0), if G (c + m) = true then (if (alU G m c a l).2 = -9 then nI (c + m) else (alU G m c a l).2) else (alU G m c a l).2) := by
  intro m
  induction m with
  | zero =>
    intro c a l
    show (if G c = true then a + 1 else a, if G c = true then (if l = -9 then nI c else l) else l) = (a + (if G (c + 0) = true then 1 else 0), if G (c + 0) = true then (if l = -9 then nI (c + 0) else l) else l)
    rw [Nat.add_zero]
    by_cases g : G c = true
    · rw [if_pos g, if_pos g, if_pos g]
    · rw [if_neg g, if_neg g, if_neg g, Int32.add_zero]
  | succ m ih =>
    intro c a l
    rw [alU_s, ih, alU_s, show c + 1 + m = c + (m + 1) by omega]
theorem al_eq {G : Nat → Bool} : ∀ (m : Nat) (a l : Int32), m ≤ 36 → alD G m a l = (a + (alU G m 0 0 (-9)).1, if (alU G m 0 0 (-9)).2 = -9 then l else (alU G m 0 0 (-9)).2) := by
  intro m
  induction m with
  | zero =>
    intro a l _
    show (a, l) = (a + 0, if (-9 : Int32) = -9 then l else -9)
    rw [Int32.add_zero, if_pos rfl]
  | succ m ih =>
    intro a l hm
    rw [alD_s, ih _ _ (by omega), alU_end, Nat.zero_add]
    generalize alU G m 0 0 (-9) = u
    by_cases g : G m = true
    · rw [if_pos g, if_pos g, if_pos g, Int32.add_assoc, Int32.add_comm 1]
      by_cases e : u.2 = -9
      · dsimp only
        rw [if_pos e, if_neg (ne9 (by omega))]
      · dsimp only
        rw [if_neg e, if_neg e]
    · rw [if_neg g, if_neg g, if_neg g, Int32.add_zero]
      dsimp only
      rw [Int32.add_zero]
theorem al_eq0 {G : Nat → Bool} : alD G 36 0 (-9) = alU G 36 0 0 (-9) := by
  rw [al_eq _ _ _ (by decide), Int32.zero_add]
  generalize alU G 36 0 0 (-9) = u
  by_cases e : u.2 = -9
  · rw [if_pos e, ← e]
  · rw [if_neg e]
/-- the first with the greatest among those that are so -/
def moF (av : Nat → Bool) (val : Nat → Int32) : Nat → Nat → Int32 → Int32 → Int32 × Int32
  | 0, _, b, g => (b, g)
  | m + 1, c, b, g => if av c = true then moF av val m (c + 1) (if val c ≤ g then b else nI c) (if val c ≤ g then g else val c) else moF av val m (c + 1) b g
theorem moF_s {av : Nat → Bool} {val : Nat → Int32} {m c : Nat} {b g : Int32} : moF av val (m + 1) c b g = if av c = true then moF av val m (c + 1) (if val c ≤ g then b else nI c) (if val c ≤ g then g else val c) else moF av val m (c + 1) b g := rfl
theorem moF_eq {av : Nat → Bool} {val : Nat → Int32} (hv : ∀ c, av c = true → ¬ val c ≤ -9 ∧ ¬ val c ≤ -1) : ∀ (m c : Nat) (b : Int32), (∃ q, c ≤ q ∧ q < c + m ∧ av q = true) → moF av val m c b (-9) = moF av val m c b (-1) := by
  intro m
  induction m with
  | zero => rintro c b ⟨q, h1, h2, _⟩; omega
  | succ m ih =>
    rintro c b ⟨q, h1, h2, h3⟩
    rw [moF_s, moF_s]
    by_cases a : av c = true
    · obtain ⟨v1, v2⟩ := hv c a
      rw [if_pos a, if_pos a, if_neg v1, if_neg v1, if_neg v2, if_neg v2]
    · rw [if_neg a, if_neg a]
      refine ih (c + 1) b ⟨q, ?_, by omega, h3⟩
      by_cases e : q = c
      · rw [e] at h3; exact absurd h3 a
      · omega
/-- the first with the least among those that are so -/
def bsF (av : Nat → Bool) (val : Nat → Int32) : Nat → Nat → Int32 → Int32 → Int32
  | 0, _, b, _ => b
  | m + 1, s, b, g => if av s = true then bsF av val m (s + 1) (if g ≤ val s then b else nI s) (if g ≤ val s then g else val s) else bsF av val m (s + 1) b g
theorem bsF_s {av : Nat → Bool} {val : Nat → Int32} {m s : Nat} {b g : Int32} : bsF av val (m + 1) s b g = if av s = true then bsF av val m (s + 1) (if g ≤ val s then b else nI s) (if g ≤ val s then g else val s) else bsF av val m (s + 1) b g := rfl
theorem bsF_eq {av : Nat → Bool} {val : Nat → Int32} (h4 : av 4 = true) (hv : ¬ 7 ≤ val 4) (b b' : Int32) : ∀ (m s : Nat) (g : Int32), s + (m + 1) = 5 → g = 7 → bsF av val (m + 1) s b g = bsF av val (m + 1) s b' g := by
  intro m
  induction m with
  | zero =>
    intro s g hs hg
    have : s = 4 := by omega
    rw [this, bsF_s, bsF_s, if_pos h4, if_pos h4, hg, if_neg hv, if_neg hv, if_neg hv]
  | succ m ih =>
    intro s g hs hg
    rw [bsF_s, bsF_s (m := m + 1)]
    by_cases a : av s = true
    · rw [if_pos a, if_pos a]
      by_cases e : g ≤ val s
      · rw [if_pos e, if_pos e, if_pos e]
        exact ih (s + 1) g (by omega) hg
      · rw [if_neg e, if_neg e, if_neg e]
    · rw [if_neg a, if_neg a]
      exact ih (s + 1) g (by omega) hg
theorem pop_b : ∀ j, j < 64 → ¬ 7 ≤ pop (nI j) ∧ ¬ pop (nI j) ≤ -9 ∧ ¬ pop (nI j) ≤ -1 := by decide +kernel
/-- of more cells than people one is free -/
theorem pig (C : zA) : ∀ (n : Nat) (L : List Int32), L.Nodup → n < L.length → ∃ c, c ∈ L ∧ ∀ q, q < n → C q ≠ c := by
  intro n
  induction n with
  | zero =>
    intro L _ h
    cases L with
    | nil => exact absurd h (by decide)
    | cons c L => exact ⟨c, List.mem_cons_self, fun q hq => absurd hq (Nat.not_lt_zero _)⟩
  | succ n ih =>
    intro L hd h
    have hl : L.length - 1 ≤ (L.erase (C n)).length := by
      by_cases m : C n ∈ L
      · rw [List.length_erase_of_mem m]; exact Nat.le_refl _
      · rw [List.erase_of_not_mem m]; omega
    obtain ⟨c, h1, h2⟩ := ih (L.erase (C n)) (hd.erase _) (by omega)
    have h3 := (List.Nodup.mem_erase_iff hd).mp h1
    refine ⟨c, h3.2, fun q hq => ?_⟩
    by_cases e : q = n
    · rw [e]; exact fun z => h3.1 z.symm
    · exact h2 q (by omega)
theorem whoF_out {C : zA} {c : Int32} : ∀ (m p : Nat), (∀ q, p ≤ q → q < p + m → C q ≠ c) → whoF C c m p = -9 := by
  intro m
  induction m with
  | zero => intro p _; rfl
  | succ m ih =>
    intro p h
    unfold whoF
    rw [if_neg (h p (Nat.le_refl _) (by omega))]
    exact ih (p + 1) fun q h1 h2 => h q (by omega) (by omega)
theorem some_free {t : zT} (hn : tn t ≤ 6) : ∃ c, c < 36 ∧ who (tn t) (tC t) (nI c) = -9 := by
  obtain ⟨c, h1, h2⟩ := pig (tC t) (tn t) [nI 0, nI 1, nI 2, nI 3, nI 4, nI 5, nI 6] (by decide) (show tn t < 7 by omega)
  have : ∃ i, i < 36 ∧ c = nI i := by
    simp only [List.mem_cons, List.not_mem_nil, or_false] at h1
    rcases h1 with h | h | h | h | h | h | h
    · exact ⟨0, by decide, h⟩
    · exact ⟨1, by decide, h⟩
    · exact ⟨2, by decide, h⟩
    · exact ⟨3, by decide, h⟩
    · exact ⟨4, by decide, h⟩
    · exact ⟨5, by decide, h⟩
    · exact ⟨6, by decide, h⟩
  obtain ⟨i, hi, rfl⟩ := this
  exact ⟨i, hi, whoF_out _ _ fun q _ h => h2 q (by omega)⟩
