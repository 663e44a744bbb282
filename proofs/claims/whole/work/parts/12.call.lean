theorem zsl_step (n : Nat) : zsl n ≤ zsl (n + 1) := by
  by_cases h : n < 140
  · rw [zsl_succ n h]; omega
  · have hl : zSH.length = 140 := by decide +kernel
    unfold zsl
    rw [List.take_of_length_le (by omega), List.take_of_length_le (by omega)]
    exact Nat.le_refl _
theorem zsl_mono {a d : Nat} (h : a ≤ d) : zsl a ≤ zsl d := by
  induction d with
  | zero => rw [Nat.le_zero.mp h]; exact Nat.le_refl _
  | succ d ih =>
    rcases Nat.lt_or_ge d a with q | q
    · rw [show a = d + 1 by omega]; exact Nat.le_refl _
    · exact Nat.le_trans (ih q) (zsl_step d)
theorem zrtn_eq {k : zM} {i : Instr} {len : Nat} {s : zS} {x : zR} (h : zrtn k i len s = some x) : x.2 = s.2.2.2 := by
  obtain ⟨pc, ls, st, ph, hh⟩ := s
  unfold zrtn at h
  dsimp only at h
  by_cases hl : len = 1
  · rw [if_pos hl] at h
    split at h
    · cases h; rfl
    · split at h
      · cases h; rfl
      · cases h
    · cases h; rfl
    · cases h; rfl
    · cases h; rfl
    · cases h
  · rw [if_neg hl] at h; cases h
theorem zst_grow {X : zX} {r : Nat} {k : zM} {C : zM → List Value → zP → zH → Option zR} {s s' : zS} (h : zst X r k C s = some (.inl s')) : s.2.2.2.1.1 ≤ s'.2.2.2.1.1 := by
  unfold zst at h
  cases hd : decode (zb k) s.1 with
  | error e => rw [hd] at h; cases h
  | ok q =>
    obtain ⟨i, len⟩ := q
    rw [hd] at h
    dsimp only at h
    cases hz : zsim X k i len s with
    | some s2 =>
      rw [hz] at h
      dsimp only at h
      by_cases hl : s.2.2.2.1.1 ≤ s2.2.2.2.1.1
      · rw [if_pos hl] at h; cases h; exact hl
      · rw [if_neg hl] at h; cases h
    | none =>
      rw [hz] at h
      dsimp only at h
      cases hr : zrtn k i len s with
      | some x => rw [hr] at h; cases h
      | none =>
        rw [hr] at h
        dsimp only at h
        cases hi : zinv k i len s with
        | none => rw [hi] at h; cases h
        | some z =>
          obtain ⟨m, as, rest, t⟩ := z
          rw [hi] at h
          dsimp only at h
          by_cases hk : zrk m as < r
          · rw [if_pos hk] at h
            cases hc : C m as s.2.2.2.1 s.2.2.2.2 with
            | none => rw [hc] at h; cases h
            | some y =>
              obtain ⟨v, p', h'⟩ := y
              rw [hc] at h
              dsimp only at h
              by_cases hl : s.2.2.2.1.1 ≤ p'.1 ∧ (t = true ∨ p' = s.2.2.2.1)
              · rw [if_pos hl] at h; cases h; exact hl.1
              · rw [if_neg hl] at h; cases h
          · rw [if_neg hk] at h; cases h
theorem zst_inr {X : zX} {r : Nat} {k : zM} {C : zM → List Value → zP → zH → Option zR} {s : zS} {x : zR} (h : zst X r k C s = some (.inr x)) : ∃ i len, decode (zb k) s.1 = .ok (i, len) ∧ zrtn k i len s = some x := by
  unfold zst at h
  cases hd : decode (zb k) s.1 with
  | error e => rw [hd] at h; cases h
  | ok q =>
    obtain ⟨i, len⟩ := q
    rw [hd] at h
    dsimp only at h
    cases hz : zsim X k i len s with
    | some s2 =>
      rw [hz] at h
      dsimp only at h
      by_cases hl : s.2.2.2.1.1 ≤ s2.2.2.2.1.1
      · rw [if_pos hl] at h; cases h
      · rw [if_neg hl] at h; cases h
    | none =>
      rw [hz] at h
      dsimp only at h
      cases hr : zrtn k i len s with
      | some x2 => rw [hr] at h; cases h; exact ⟨i, len, rfl, hr⟩
      | none =>
        rw [hr] at h
        dsimp only at h
        cases hi : zinv k i len s with
        | none => rw [hi] at h; cases h
        | some z =>
          obtain ⟨m, as, rest, t⟩ := z
          rw [hi] at h
          dsimp only at h
          by_cases hk : zrk m as < r
          · rw [if_pos hk] at h
            cases hc : C m as s.2.2.2.1 s.2.2.2.2 with
            | none => rw [hc] at h; cases h
            | some y =>
              obtain ⟨v, p', h'⟩ := y
              rw [hc] at h
              dsimp only at h
              by_cases hl : s.2.2.2.1.1 ≤ p'.1 ∧ (t = true ∨ p' = s.2.2.2.1)
              · rw [if_pos hl] at h; cases h
              · rw [if_neg hl] at h; cases h
          · rw [if_neg hk] at h; cases h
theorem zst_inl {X : zX} {r : Nat} {k : zM} {C : zM → List Value → zP → zH → Option zR} {s s' : zS} (h : zst X r k C s = some (.inl s')) : ∃ i len, decode (zb k) s.1 = .ok (i, len) ∧ (zsim X k i len s = some s' ∨ ∃ m as rest t v p' h', zinv k i len s = some (m, as, rest, t) ∧ zrk m as < r ∧ C m as s.2.2.2.1 s.2.2.2.2 = some (v, p', h') ∧ s.2.2.2.1.1 ≤ p'.1 ∧ s' = (s.1 + 3, s.2.1, v.toList ++ rest, p', h')) := by
  unfold zst at h
  cases hd : decode (zb k) s.1 with
  | error e => rw [hd] at h; cases h
  | ok q =>
    obtain ⟨i, len⟩ := q
    refine ⟨i, len, rfl, ?_⟩
    rw [hd] at h
    dsimp only at h
    cases hz : zsim X k i len s with
    | some s2 =>
      rw [hz] at h
      dsimp only at h
      by_cases hl : s.2.2.2.1.1 ≤ s2.2.2.2.1.1
      · rw [if_pos hl] at h; cases h; exact Or.inl rfl
      · rw [if_neg hl] at h; cases h
    | none =>
      rw [hz] at h
      dsimp only at h
      cases hr : zrtn k i len s with
      | some x2 => rw [hr] at h; cases h
      | none =>
        rw [hr] at h
        dsimp only at h
        cases hi : zinv k i len s with
        | none => rw [hi] at h; cases h
        | some z =>
          obtain ⟨m, as, rest, t⟩ := z
          rw [hi] at h
          dsimp only at h
          by_cases hk : zrk m as < r
          · rw [if_pos hk] at h
            cases hc : C m as s.2.2.2.1 s.2.2.2.2 with
            | none => rw [hc] at h; cases h
            | some y =>
              obtain ⟨v, p', h'⟩ := y
              rw [hc] at h
              dsimp only at h
              by_cases hl : s.2.2.2.1.1 ≤ p'.1 ∧ (t = true ∨ p' = s.2.2.2.1)
              · rw [if_pos hl] at h; cases h; exact Or.inr ⟨m, as, rest, t, v, p', h', rfl, hk, hc, hl.1, rfl⟩
              · rw [if_neg hl] at h; cases h
          · rw [if_neg hk] at h; cases h
theorem zex_grow {X : zX} {r : Nat} {k : zM} {C : zM → List Value → zP → zH → Option zR} {x : zR} : ∀ (n : Nat) (s : zS), zex X r k C n s = some x → s.2.2.2.1.1 ≤ x.2.1.1 := by
  intro n
  induction n with
  | zero => intro s h; cases h
  | succ n ih =>
    intro s h
    unfold zex at h
    cases hs : zst X r k C s with
    | none => rw [hs] at h; cases h
    | some y =>
      rw [hs] at h
      cases y with
      | inl s' => exact Nat.le_trans (zst_grow hs) (ih s' h)
      | inr z =>
        cases h
        obtain ⟨i, len, h1, h2⟩ := zst_inr hs
        rw [zrtn_eq h2]
        exact Nat.le_refl _
def zwd (k : zM) : List Jvm.Cond := Jvm.Cond.code (zn k) (zb k) (zml k) (zrt k) :: zgw
def zrm (r cn sn : Nat) : Jvm.Room := { frames := r + 1, cells := cn, slots := sn, locals := 40 * r + 40 }
def zNW (U : State) : Prop := ∀ w ∈ zTs, znst w = true → w.before #[] U = true
theorem zNW.warm {s U : State} (hW : s.WarmedH U.vm) (h : zNW s) : zNW U := by
  intro w hw hn
  have h1 := h w hw hn
  cases w with
  | fieldLinkNest a i x n d o => exact va_Nw.warmF hW h1
  | methodLinkNest a i x o => exact va_Nw.warmM hW h1
  | arrayOver t => cases t with
    | object C => exact va_AO.use (va_AO.moved hW.alike (va_AO.of h1))
    | _ => cases hn
  | _ => cases hn
theorem zNW.same {s U : State} (hv : U.vm = s.vm) (h : zNW s) : zNW U := by
  intro w hw hn
  have h1 := h w hw hn
  cases w with
  | fieldLinkNest a i x n d o => exact va_Nw.same rfl hv.symm h1
  | methodLinkNest a i x o => exact va_Nw.same rfl hv.symm h1
  | arrayOver t => cases t with
    | object C => exact va_AO.use (va_AO.moved (by rw [hv]; exact Vm.Alike.refl s.vm) (va_AO.of h1))
    | _ => cases hn
  | _ => cases hn
theorem zNW.use {U : State} {A : Array Value} (h : zNW U) {w : Jvm.Cond} (hw : w ∈ zTs) (hn : znst w = true) : w.before A U = true := by
  have h1 := h w hw hn
  cases w with
  | fieldLinkNest a i x n d o => exact va_Nw.use rfl h1
  | methodLinkNest a i x o => exact va_Nw.use rfl h1
  | arrayOver t => cases t with
    | object C => exact va_AO.use (va_AO.of h1)
    | _ => cases hn
  | _ => cases hn
def zG (b bs : Nat) (cI cH : ClassId) (D : va_G) (X : zX) (ph : zP) (h : zH) (U : State) : Prop := va_P D zcls (zws b bs cI cH ph h) U.heap ∧ U.heap.size = bs + ph.1 ∧ ph.1 ≤ 140 ∧ va_K D zcls [(cI, .int), (cH, .object "SeenFromBehind$Hill")] U ∧ va_X b X.1 X.2 U U.heap ∧ b < bs ∧ zNW U
def zQc (b bs : Nat) (cI cH : ClassId) (D : va_G) (X : zX) (x : zR) : Array Value → State → Outcome → State → Prop := fun _ st o t => o = .returned (x.1.map (zcv b bs)) ∧ zG b bs cI cH D X x.2.1 x.2.2 t ∧ va_F (fun q => bs ≤ q) st t
def zMet (b bs : Nat) (cI cH : ClassId) (D : va_G) (X : zX) (l : Launch) (m : zM) (as : List Value) (ph : zP) (h : zH) (x : zR) : Prop := Met l (zn m) (zwd m) (zrm (zrk m as) (x.2.1.1 - ph.1) (zsl x.2.1.1 - zsl ph.1)) (va_Pc (as.map (zcv b bs)) (zG b bs cI cH D X ph h)) (zQc b bs cI cH D X x) (x.2.1.1 - ph.1) (zsl x.2.1.1 - zsl ph.1) (fun q => bs ≤ q)
section zcall
variable {p : Program} {l : Launch} {e : Env} {R : Room} {s : State} {m : MethodId} {args : Array Value} {below : List Frame} {meth : Method} {c : Code} {H : Heap} {locs : List Loc} {cells slots : Nat} {Q : State → Prop}
variable {b bs : Nat} {cI cH : ClassId} {D : va_G} {X : zX} {k : zM} {pc pc' len : Nat} {ls ls' : zL} {st st' : List Value} {ph ph' : zP} {h h' : zH} {Ls : Array Slot}
theorem zG.blind {ph : zP} {h : zH} {av : List Value} : FrameBlind (va_Pc av (zG b bs cI cH D X ph h)) := by
  rintro a U g mk ⟨q0, q1, q2, q3, q4, q5, q6, q7⟩
  exact ⟨q0, q1, q2, q3, va_K.moved (u := U) (U := U.calling g mk a) (Vm.Alike.refl U.vm) q4, va_X.moved (u := U) (U := U.calling g mk a) (Vm.Alike.refl U.vm) q5, q6, zNW.same (s := U) (U := U.calling g mk a) rfl q7⟩
theorem zrun_go {mc ms : Nat} {st0 rest0 : List Value} {a : Array Value} {x : zR} (hr : va_Run p l e R s m args below meth c H locs cells slots mc ms (F0 m pc Ls st0) rest0 (zQc b bs cI cH D X x a) (fun q => bs ≤ q)) (hS : va_S (fun q => bs ≤ q) s.heap H locs)
    (kk : ∀ (H1 : Heap) (locs1 : List Loc), va_P D zcls (zws b bs cI cH x.2.1 x.2.2) H1 → H1.size = bs + x.2.1.1 → x.2.1.1 ≤ 140 → va_S (fun q => bs ≤ q) s.heap H1 locs1 → W p l e R s m args below meth c H1 locs1 (cells + mc) (slots + ms) Q (F0 m (pc + 3) Ls ((x.1.map (zcv b bs)).toList ++ rest0))) : W p l e R s m args below meth c H locs cells slots Q (F0 m pc Ls st0) := by
  intro T hT XX
  obtain ⟨v, st₀, t, T', L, h0, X', hL, e1, e2, ⟨hv, ⟨g1, g2, g3, g4⟩, hz, hk⟩, st⟩ := hr T hT XX
  have hv := Option.some.inj (congrArg some (Outcome.returned.inj hv))
  subst hv
  rw [h0] at hz hk
  obtain ⟨t2, a1, b1⟩ := kk T'.heap (locs ++ L) (by rw [e1]; exact g1) (by rw [e1]; exact g2) g3 ⟨Nat.le_trans hS.1 (by rw [e1]; exact hz), fun q h1 h2 => by rw [e1, hk q (Nat.lt_of_lt_of_le h1 hS.1) h2]; exact hS.2.1 q h1 h2, fun q hq => by
      rcases List.mem_append.mp hq with h | h
      · exact hS.2.2 q h
      · exact hL q h⟩ T' rfl X'
  exact ⟨t2, st t2 a1, b1⟩
end zcall
