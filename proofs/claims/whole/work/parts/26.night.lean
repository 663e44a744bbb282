/-! a night -/
def zua (A : zA) (p : Nat) (v : Int32) : zA := fun q => if q = p then v else A q
def wK (t : zT) (p : Nat) (v : Int32) : zT := (t.1, zua t.2.1 p v, t.2.2.1, t.2.2.2.1, t.2.2.2.2.1, t.2.2.2.2.2)
def wF (t : zT) (p : Nat) (v : Int32) : zT := (t.1, t.2.1, zua t.2.2.1 p v, t.2.2.2.1, t.2.2.2.2.1, t.2.2.2.2.2)
def wC (t : zT) (p : Nat) (v : Int32) : zT := (t.1, t.2.1, t.2.2.1, zua t.2.2.2.1 p v, t.2.2.2.2.1, t.2.2.2.2.2)
def wD (t : zT) (p : Nat) (v : Int32) : zT := (t.1, t.2.1, t.2.2.1, t.2.2.2.1, zua t.2.2.2.2.1 p v, t.2.2.2.2.2)
def wS (t : zT) (p : Nat) (v : Int32) : zT := (t.1, t.2.1, t.2.2.1, t.2.2.2.1, t.2.2.2.2.1, zua t.2.2.2.2.2 p v)
theorem zup_eq {I : Nat → Nat → Int32} {a j : Nat} {v : Int32} : zup I a j v a j = v := by unfold zup; rw [if_pos ⟨rfl, rfl⟩]
theorem zup_nc {I : Nat → Nat → Int32} {a j b i : Nat} {v : Int32} (h : b ≠ a) : zup I a j v b i = I b i := by unfold zup; rw [if_neg (fun q => h q.1)]
theorem zup_ns {I : Nat → Nat → Int32} {a j b i : Nat} {v : Int32} (h : i ≠ j) : zup I a j v b i = I b i := by unfold zup; rw [if_neg (fun q => h q.2)]
theorem zup_zua {I : Nat → Nat → Int32} {A : zA} {b p q : Nat} {v : Int32} (h : I b q = A q) : zup I b p v b q = zua A p v q := by
  unfold zup zua
  by_cases hq : q = p
  · rw [if_pos ⟨rfl, hq⟩, if_pos hq]
  · rw [if_neg (fun z => hq z.2), if_neg hq, h]
section zrp
variable {I : Nat → Nat → Int32} {z : Int32} {k f c d s p b j : Nat} {v : Int32} {t : zT}
theorem RP.oth (R : RP I z k f c d s t) (h1 : k ≠ b) (h2 : f ≠ b) (h3 : c ≠ b) (h4 : d ≠ b) (h5 : s ≠ b) : RP (zup I b j v) z k f c d s t := ⟨R.1, fun q hq => by rw [zup_nc h1, zup_nc h2, zup_nc h3, zup_nc h4, zup_nc h5]; exact R.2 q hq⟩
theorem RP.uK (R : RP I z k f c d s t) (h2 : f ≠ k) (h3 : c ≠ k) (h4 : d ≠ k) (h5 : s ≠ k) : RP (zup I k p v) z k f c d s (wK t p v) := ⟨R.1, fun q hq => by rw [zup_nc h2, zup_nc h3, zup_nc h4, zup_nc h5]; obtain ⟨r1, r2, r3, r4, r5⟩ := R.2 q hq; exact ⟨zup_zua r1, r2, r3, r4, r5⟩⟩
theorem RP.uF (R : RP I z k f c d s t) (h1 : k ≠ f) (h3 : c ≠ f) (h4 : d ≠ f) (h5 : s ≠ f) : RP (zup I f p v) z k f c d s (wF t p v) := ⟨R.1, fun q hq => by rw [zup_nc h1, zup_nc h3, zup_nc h4, zup_nc h5]; obtain ⟨r1, r2, r3, r4, r5⟩ := R.2 q hq; exact ⟨r1, zup_zua r2, r3, r4, r5⟩⟩
theorem RP.uC (R : RP I z k f c d s t) (h1 : k ≠ c) (h2 : f ≠ c) (h4 : d ≠ c) (h5 : s ≠ c) : RP (zup I c p v) z k f c d s (wC t p v) := ⟨R.1, fun q hq => by rw [zup_nc h1, zup_nc h2, zup_nc h4, zup_nc h5]; obtain ⟨r1, r2, r3, r4, r5⟩ := R.2 q hq; exact ⟨r1, r2, zup_zua r3, r4, r5⟩⟩
theorem RP.uD (R : RP I z k f c d s t) (h1 : k ≠ d) (h2 : f ≠ d) (h3 : c ≠ d) (h5 : s ≠ d) : RP (zup I d p v) z k f c d s (wD t p v) := ⟨R.1, fun q hq => by rw [zup_nc h1, zup_nc h2, zup_nc h3, zup_nc h5]; obtain ⟨r1, r2, r3, r4, r5⟩ := R.2 q hq; exact ⟨r1, r2, r3, zup_zua r4, r5⟩⟩
theorem RP.uS (R : RP I z k f c d s t) (h1 : k ≠ s) (h2 : f ≠ s) (h3 : c ≠ s) (h4 : d ≠ s) : RP (zup I s p v) z k f c d s (wS t p v) := ⟨R.1, fun q hq => by rw [zup_nc h1, zup_nc h2, zup_nc h3, zup_nc h4]; obtain ⟨r1, r2, r3, r4, r5⟩ := R.2 q hq; exact ⟨r1, r2, r3, r4, zup_zua r5⟩⟩
end zrp
section zhr
variable {h : zH} {a p j b : Nat} {v : Int32} {t : zT}
theorem HR.uK (R : HR h a t) : HR (zup h.1 (a + 1) p v, h.2) a (wK t p v) := by
  have : RP (zup h.1 (a + 1) p v) (h.1 a 5) (a + 1) (a + 2) (a + 3) (a + 4) (a + 5) (wK t p v) := RP.uK R (by omega) (by omega) (by omega) (by omega)
  unfold HR; dsimp only; rw [zup_nc (show a ≠ a + 1 by omega)]; exact this
theorem HR.uF (R : HR h a t) : HR (zup h.1 (a + 2) p v, h.2) a (wF t p v) := by
  have : RP (zup h.1 (a + 2) p v) (h.1 a 5) (a + 1) (a + 2) (a + 3) (a + 4) (a + 5) (wF t p v) := RP.uF R (by omega) (by omega) (by omega) (by omega)
  unfold HR; dsimp only; rw [zup_nc (show a ≠ a + 2 by omega)]; exact this
theorem HR.uC (R : HR h a t) : HR (zup h.1 (a + 3) p v, h.2) a (wC t p v) := by
  have : RP (zup h.1 (a + 3) p v) (h.1 a 5) (a + 1) (a + 2) (a + 3) (a + 4) (a + 5) (wC t p v) := RP.uC R (by omega) (by omega) (by omega) (by omega)
  unfold HR; dsimp only; rw [zup_nc (show a ≠ a + 3 by omega)]; exact this
theorem HR.uD (R : HR h a t) : HR (zup h.1 (a + 4) p v, h.2) a (wD t p v) := by
  have : RP (zup h.1 (a + 4) p v) (h.1 a 5) (a + 1) (a + 2) (a + 3) (a + 4) (a + 5) (wD t p v) := RP.uD R (by omega) (by omega) (by omega) (by omega)
  unfold HR; dsimp only; rw [zup_nc (show a ≠ a + 4 by omega)]; exact this
theorem HR.uS (R : HR h a t) : HR (zup h.1 (a + 5) p v, h.2) a (wS t p v) := by
  have : RP (zup h.1 (a + 5) p v) (h.1 a 5) (a + 1) (a + 2) (a + 3) (a + 4) (a + 5) (wS t p v) := RP.uS R (by omega) (by omega) (by omega) (by omega)
  unfold HR; dsimp only; rw [zup_nc (show a ≠ a + 5 by omega)]; exact this
theorem HR.fld (R : HR h a t) (hj : j ≠ 5) : HR (zup h.1 a j v, h.2) a t := by
  have : RP (zup h.1 a j v) (h.1 a 5) (a + 1) (a + 2) (a + 3) (a + 4) (a + 5) t := RP.oth R (by omega) (by omega) (by omega) (by omega) (by omega)
  unfold HR; dsimp only; rw [zup_ns (Ne.symm hj)]; exact this
theorem MR.uK (R : MR h t) : MR (zup h.1 124 p v, h.2) (wK t p v) := by
  have : RP (zup h.1 124 p v) (h.1 123 0) 124 125 126 127 128 (wK t p v) := RP.uK R (by decide) (by decide) (by decide) (by decide)
  unfold MR; dsimp only; rw [zup_nc (show 123 ≠ 124 by decide)]; exact this
theorem MR.uF (R : MR h t) : MR (zup h.1 125 p v, h.2) (wF t p v) := by
  have : RP (zup h.1 125 p v) (h.1 123 0) 124 125 126 127 128 (wF t p v) := RP.uF R (by decide) (by decide) (by decide) (by decide)
  unfold MR; dsimp only; rw [zup_nc (show 123 ≠ 125 by decide)]; exact this
theorem MR.uC (R : MR h t) : MR (zup h.1 126 p v, h.2) (wC t p v) := by
  have : RP (zup h.1 126 p v) (h.1 123 0) 124 125 126 127 128 (wC t p v) := RP.uC R (by decide) (by decide) (by decide) (by decide)
  unfold MR; dsimp only; rw [zup_nc (show 123 ≠ 126 by decide)]; exact this
theorem MR.uD (R : MR h t) : MR (zup h.1 127 p v, h.2) (wD t p v) := by
  have : RP (zup h.1 127 p v) (h.1 123 0) 124 125 126 127 128 (wD t p v) := RP.uD R (by decide) (by decide) (by decide) (by decide)
  unfold MR; dsimp only; rw [zup_nc (show 123 ≠ 127 by decide)]; exact this
theorem MR.uS (R : MR h t) : MR (zup h.1 128 p v, h.2) (wS t p v) := by
  have : RP (zup h.1 128 p v) (h.1 123 0) 124 125 126 127 128 (wS t p v) := RP.uS R (by decide) (by decide) (by decide) (by decide)
  unfold MR; dsimp only; rw [zup_nc (show 123 ≠ 128 by decide)]; exact this
theorem MR.fld (R : MR h t) (hj : j ≠ 0) : MR (zup h.1 123 j v, h.2) t := by
  have : RP (zup h.1 123 j v) (h.1 123 0) 124 125 126 127 128 t := RP.oth R (by decide) (by decide) (by decide) (by decide) (by decide)
  unfold MR; dsimp only; rw [zup_ns (Ne.symm hj)]; exact this
theorem MR.cel (R : MR h t) (hb : b < 123 ∨ 128 < b) {x : Nat} : MR (zup h.1 b j v, x) t := by
  have : RP (zup h.1 b j v) (h.1 123 0) 124 125 126 127 128 t := RP.oth R (by omega) (by omega) (by omega) (by omega) (by omega)
  unfold MR; dsimp only; rw [zup_nc (show 123 ≠ b by omega)]; exact this
end zhr
def inc (s : Int32) : Int32 := if s + 1 < 99 then s + 1 else 99
theorem inc_rg : ∀ j, j < 100 → rg (inc (nI j)) 100 ∧ nI j + (if 99 ≤ nI j then (0 : Int32) else 1) = inc (nI j) := by unfold rg; decide +kernel
def ahr (t : zT) (r : Int32) : Int32 := ahd t r.toNatClampNeg
def stp (t : zT) (p : Nat) (c : Int32) : zT × Bool × Bool := if c = -1 then (t, false, false) else (if who (tn t) (tC t) c = -9 then (wC t p c, true, true) else (t, false, false))
/-- what one does who has seen somebody: the people then, whether he stirred, whether he stepped -/
def act (t : zT) (p : Nat) (r : Int32) : zT × Bool × Bool :=
  if tK t p = 0 then (if ahr t r = nI p then (wD t p (trn (tD t p) 2), true, false) else (t, false, false))
  else (if tK t p = 1 then (wD t p (trn (tD t p) 1), true, false)
  else (if tK t p = 2 then stp t p (bes (tC t p) (trn (tD t p) 2))
  else (if tK t p = 3 then (wD t p (trn (tD t p) 2), true, false)
  else (if tK t p = 4 then (t, false, false)
  else (if tK t p = 5 then stp t p (bes (tC t p) (tD t p)) else (t, false, false))))))
def nightF (sl : Int32) : Nat → Nat → zT → Int32 → Int32 → Int32 → zT × Int32 × Int32 × Int32
  | 0, _, t, x, y, z => (t, x, y, z)
  | m + 1, p, t, x, y, z => if nI p = sl then nightF sl m (p + 1) t x y z else (if lns t p = -9 then nightF sl m (p + 1) t x y z else nightF sl m (p + 1) (act (wS t p (inc (tS t p))) p (lns t p)).1 (x ||| bt p) (y ||| (if (act (wS t p (inc (tS t p))) p (lns t p)).2.1 = true then bt p else 0)) (if (act (wS t p (inc (tS t p))) p (lns t p)).2.2 = true then z ||| bt p else z))
def night (t : zT) (sl : Int32) : zT × Int32 × Int32 × Int32 := nightF sl (tn t) 0 t 0 0 0
theorem zua_rg {A : zA} {p q m : Nat} {v : Int32} (hv : rg v m) (h : rg (A q) m) : rg (zua A p v q) m := by
  unfold zua
  by_cases hq : q = p
  · rw [if_pos hq]; exact hv
  · rw [if_neg hq]; exact h
theorem tV.wK {t : zT} (V : tV t) {p : Nat} {v : Int32} (h : rg v 6) : tV (wK t p v) := ⟨V.1, fun q hq => by obtain ⟨r1, r2, r3, r4, r5⟩ := V.2 q hq; exact ⟨zua_rg h r1, r2, r3, r4, r5⟩⟩
theorem tV.wF {t : zT} (V : tV t) {p : Nat} {v : Int32} (h : rg v 10) : tV (wF t p v) := ⟨V.1, fun q hq => by obtain ⟨r1, r2, r3, r4, r5⟩ := V.2 q hq; exact ⟨r1, zua_rg h r2, r3, r4, r5⟩⟩
theorem tV.wC {t : zT} (V : tV t) {p : Nat} {v : Int32} (h : rg v 36) : tV (wC t p v) := ⟨V.1, fun q hq => by obtain ⟨r1, r2, r3, r4, r5⟩ := V.2 q hq; exact ⟨r1, r2, zua_rg h r3, r4, r5⟩⟩
theorem tV.wD {t : zT} (V : tV t) {p : Nat} {v : Int32} (h : rg v 4) : tV (wD t p v) := ⟨V.1, fun q hq => by obtain ⟨r1, r2, r3, r4, r5⟩ := V.2 q hq; exact ⟨r1, r2, r3, zua_rg h r4, r5⟩⟩
theorem tV.wS {t : zT} (V : tV t) {p : Nat} {v : Int32} (h : rg v 100) : tV (wS t p v) := ⟨V.1, fun q hq => by obtain ⟨r1, r2, r3, r4, r5⟩ := V.2 q hq; exact ⟨r1, r2, r3, r4, zua_rg h r5⟩⟩
theorem bes_rg : ∀ j, j < 36 → ∀ i, i < 4 → bes (nI j) (nI i) = -1 ∨ rg (bes (nI j) (nI i)) 36 := by unfold rg; decide +kernel
theorem stp_V {t : zT} (V : tV t) {p : Nat} {c w : Int32} (hc : rg c 36) (hw : rg w 4) : tV (stp t p (bes c w)).1 ∧ tn (stp t p (bes c w)).1 = tn t := by
  obtain ⟨j, hj, rfl⟩ := hc
  obtain ⟨i, hi, rfl⟩ := hw
  unfold stp
  by_cases h1 : bes (nI j) (nI i) = -1
  · rw [if_pos h1]; exact ⟨V, rfl⟩
  · rw [if_neg h1]
    by_cases h2 : who (tn t) (tC t) (bes (nI j) (nI i)) = -9
    · rw [if_pos h2]
      rcases bes_rg j hj i hi with q | q
      · exact absurd q h1
      · exact ⟨V.wC q, rfl⟩
    · rw [if_neg h2]; exact ⟨V, rfl⟩
theorem rg_trn {x : Int32} (h : rg x 4) {q : Nat} (hq : q < 4) : rg (trn x (nI q)) 4 := by
  obtain ⟨j, hj, rfl⟩ := h
  exact trn_rg j hj q hq
theorem act_V {t : zT} (V : tV t) {p : Nat} (hp : p < tn t) (r : Int32) : tV (act t p r).1 ∧ tn (act t p r).1 = tn t := by
  obtain ⟨r1, r2, r3, r4, r5⟩ := V.2 p hp
  have t1 : rg (trn (tD t p) 1) 4 := rg_trn (q := 1) r4 (by decide)
  have t2 : rg (trn (tD t p) 2) 4 := rg_trn (q := 2) r4 (by decide)
  unfold act
  split
  · split
    · exact ⟨V.wD t2, rfl⟩
    · exact ⟨V, rfl⟩
  · split
    · exact ⟨V.wD t1, rfl⟩
    · split
      · exact stp_V V r3 t2
      · split
        · exact ⟨V.wD t2, rfl⟩
        · split
          · exact ⟨V, rfl⟩
          · split
            · exact stp_V V r3 r4
            · exact ⟨V, rfl⟩
theorem tV_inc {t : zT} (V : tV t) {p : Nat} (hp : p < tn t) : tV (wS t p (inc (tS t p))) := by
  obtain ⟨r1, r2, r3, r4, j, hj, e⟩ := V.2 p hp
  refine V.wS ?_
  rw [e]
  exact (inc_rg j hj).1
theorem nightF_V (sl : Int32) : ∀ (m p : Nat) (t : zT) (x y z : Int32), p + m ≤ tn t → tV t → tV (nightF sl m p t x y z).1 ∧ tn (nightF sl m p t x y z).1 = tn t := by
  intro m
  induction m with
  | zero => intro p t x y z _ V; exact ⟨V, rfl⟩
  | succ m ih =>
    intro p t x y z hp V
    unfold nightF
    split
    · exact ih _ _ _ _ _ (by omega) V
    · split
      · exact ih _ _ _ _ _ (by omega) V
      · obtain ⟨v1, v2⟩ := act_V (t := wS t p (inc (tS t p))) (tV_inc V (by omega)) (p := p) (show p < tn t by omega) (lns t p)
        have v3 : tn (act (wS t p (inc (tS t p))) p (lns t p)).1 = tn t := v2
        obtain ⟨w1, w2⟩ := ih (p + 1) _ (x ||| bt p) (y ||| (if (act (wS t p (inc (tS t p))) p (lns t p)).2.1 = true then bt p else 0)) (if (act (wS t p (inc (tS t p))) p (lns t p)).2.2 = true then z ||| bt p else z) (by rw [v3]; omega) v1
        exact ⟨w1, w2.trans v3⟩
theorem night_V {t : zT} (V : tV t) (sl : Int32) : tV (night t sl).1 ∧ tn (night t sl).1 = tn t := nightF_V sl _ _ _ _ _ _ (by omega) V
