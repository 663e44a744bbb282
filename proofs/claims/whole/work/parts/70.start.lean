/-! the start: what the constructors leave, said of an evaluator that does not look at the script -/
def zX0 : zX := (0, fun _ => 0)
/-- the script may be looked at here -/
def zgq (k : zM) (s : zS) : Bool := match decode (zb k) s.1 with
  | .ok (.iaload, _) => true
  | .ok (.arraylength, _) => (match s.2.2.1 with | .ref 0 :: _ => true | _ => false)
  | _ => false
theorem zsim_ind {X : zX} {k : zM} {i : Instr} {len : Nat} {s : zS} (h1 : i ≠ .iaload) (h2 : i = .arraylength → ∀ r, s.2.2.1 ≠ .ref 0 :: r) : zsim X k i len s = zsim zX0 k i len s := by
  cases i
  case iaload => exact absurd rfl h1
  case arraylength =>
    obtain ⟨pc, ls, st, p, h⟩ := s
    have h3 := h2 rfl
    dsimp only at h3
    show zxLen X len _ = zxLen zX0 len _
    cases st with
    | nil => rfl
    | cons v r =>
      cases v with
      | ref b =>
        cases b with
        | zero => exact absurd rfl (h3 r)
        | succ b => rfl
      | _ => rfl
  case newarray a => cases a <;> rfl
  all_goals rfl
theorem zst_ind {X : zX} {r : Nat} {k : zM} {C : zM → List Value → zP → zH → Option zR} {s : zS} (h : ¬ zgq k s = true) : zst X r k C s = zst zX0 r k C s := by
  unfold zgq at h
  unfold zst
  cases hd : decode (zb k) s.1 with
  | error e => rfl
  | ok q =>
    obtain ⟨i, len⟩ := q
    rw [hd] at h
    dsimp only at h ⊢
    have h1 : i ≠ .iaload := fun z => by subst z; exact h rfl
    have h2 : i = .arraylength → ∀ r, s.2.2.1 ≠ .ref 0 :: r := fun z r e => by subst z; dsimp only at h; rw [e] at h; exact h rfl
    rw [zsim_ind h1 h2]
def zexS (r : Nat) (k : zM) (C : zM → List Value → zP → zH → Option zR) : Nat → zS → Option zR
  | 0, _ => none
  | n + 1, s => if zgq k s = true then none else (match zst zX0 r k C s with
    | none => none
    | some (.inl s') => zexS r k C n s'
    | some (.inr x) => some x)
def zevS : Nat → Nat → zM → List Value → zP → zH → Option zR
  | 0, _, _, _, _, _ => none
  | d + 1, n, m, as, p, h => if (zla as).length ≤ zml m then zexS (zrk m as) m (zevS d n) n (0, zini m as, [], p, h) else none
/-- so many steps -/
def zruS (r : Nat) (k : zM) (C : zM → List Value → zP → zH → Option zR) : Nat → zS → Option zS
  | 0, s => some s
  | n + 1, s => if zgq k s = true then none else (match zst zX0 r k C s with
    | some (.inl s') => zruS r k C n s'
    | _ => none)
theorem zexS_ok {X : zX} {r : Nat} {k : zM} {C : zM → List Value → zP → zH → Option zR} : ∀ (n : Nat) (s : zS) (x : zR), zexS r k C n s = some x → zex X r k C n s = some x := by
  intro n
  induction n with
  | zero => intro s x h; cases h
  | succ n ih =>
    intro s x h
    unfold zexS at h
    unfold zex
    by_cases g : zgq k s = true
    · rw [if_pos g] at h; cases h
    · rw [if_neg g] at h
      rw [zst_ind g]
      cases hz : zst zX0 r k C s with
      | none => rw [hz] at h; cases h
      | some y =>
        rw [hz] at h
        cases y with
        | inl s' => exact ih s' x h
        | inr z => exact h
theorem zevS_ok {X : zX} : ∀ (d n : Nat) (m : zM) (as : List Value) (p : zP) (h : zH) (x : zR), zevS d n m as p h = some x → zev X d n m as p h = some x := by
  intro d
  induction d with
  | zero => intro n m as p h x q; cases q
  | succ d ih =>
    intro n m as p h x q
    unfold zevS at q
    unfold zev
    by_cases hl : (zla as).length ≤ zml m
    · rw [if_pos hl] at q ⊢
      exact zex_mono (fun m as p h x q => ih n m as p h x q) n n _ x (Nat.le_refl n) (zexS_ok n _ x q)
    · rw [if_neg hl] at q; cases q
theorem zruS_ok {X : zX} {r : Nat} {k : zM} {C C' : zM → List Value → zP → zH → Option zR} (hC : ∀ m as p h x, C m as p h = some x → C' m as p h = some x) : ∀ (n : Nat) (s s' : zS), zruS r k C n s = some s' → ∀ N x, zex X r k C' N s' = some x → zex X r k C' (N + n) s = some x := by
  intro n
  induction n with
  | zero => intro s s' h N x hx; cases h; exact hx
  | succ n ih =>
    intro s s' h N x hx
    unfold zruS at h
    by_cases g : zgq k s = true
    · rw [if_pos g] at h; cases h
    · rw [if_neg g] at h
      cases hz : zst zX0 r k C s with
      | none => rw [hz] at h; cases h
      | some y =>
        rw [hz] at h
        cases y with
        | inl s2 =>
          have := ih s2 s' h N x hx
          show zex X r k C' ((N + n) + 1) s = some x
          unfold zex
          rw [zst_mono hC (show zst X r k C s = some (.inl s2) from (zst_ind g).trans hz)]
          exact this
        | inr z => cases h
/-- what is nought at the start -/
def zst0 : List (Nat × Nat) := [(2, 5), (2, 6), (1, 4), (21, 2), (21, 1), (71, 1), (1, 8), (74, 1), (74, 2), (74, 3), (74, 4), (74, 5), (74, 6), (123, 0), (123, 6), (123, 21), (123, 27), (123, 12), (123, 32), (129, 1), (129, 2), (129, 3), (129, 4), (129, 5), (129, 6)]
def zchk (o : Option zS) : Bool := match o with
  | some (pc, [some (.ref a), some (.ref b), some (.ref c), some (.int x)], [], p, h) => decide (pc = 18 ∧ a = 0 ∧ b = 1 ∧ c = 123 ∧ x = 0 ∧ p = zPH) && zst0.all fun q => decide (h.1 q.1 q.2 = 0)
  | _ => false
theorem zchk_ok {o : Option zS} (h : zchk o = true) : ∃ H : zH, o = some (18, [some (.ref 0), some (.ref 1), some (.ref 123), some (.int 0)], [], zPH, H) ∧ ∀ q, q ∈ zst0 → H.1 q.1 q.2 = 0 := by
  unfold zchk at h
  split at h
  · rename_i pc a b c x p H
    have h2 := Bool.and_eq_true_iff.mp h
    obtain ⟨e1, e2, e3, e4, e5, e6⟩ := of_decide_eq_true h2.1
    subst e1 e2 e3 e4 e5 e6
    exact ⟨H, rfl, fun q hq => of_decide_eq_true (List.all_eq_true.mp h2.2 q hq)⟩
  · cases h
