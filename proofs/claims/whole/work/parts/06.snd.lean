/-! the evaluator's heap as a world of the machine; one step -/
def zad (b bs a : Nat) : Nat := match a with | 0 => b | n + 1 => bs + n
def zcv (b bs : Nat) : Value → Value := fun v => match v with | .ref a => .ref (zad b bs a) | v => v
theorem zcv_cat (b bs : Nat) (v : Value) : (zcv b bs v).category = v.category := by cases v <;> rfl
def zra (bs v : Nat) : Option Nat := match v with | 0 => none | n + 1 => some (bs + n)
theorem zra_rf (b bs v : Nat) : va_rf (zra bs v) = zcv b bs (zrv v) := by cases v <;> rfl
def zfv (b bs : Nat) (p : zP) (h : zH) (q c j : Nat) : Value := match zfk c j with | 2 => zcv b bs (zrv (zlk p.2 q j)) | 3 => zcv b bs (zrv h.2) | _ => .int (h.1 q j)
def zfs (b bs : Nat) (p : zP) (h : zH) (q c : Nat) : List Value := (List.range (zNf c)).map (zfv b bs p h q c)
theorem zfs_get {b bs : Nat} {p : zP} {h : zH} {q c j : Nat} (hj : j < zNf c) : (zfs b bs p h q c)[j]? = some (zfv b bs p h q c j) := by
  unfold zfs
  rw [List.getElem?_map, List.getElem?_range hj]
  rfl
theorem zfs_len {b bs : Nat} {p : zP} {h : zH} {q c : Nat} : (zfs b bs p h q c).length = zNf c := by simp [zfs]
def zce (b bs : Nat) (cI cH : ClassId) (p : zP) (h : zH) (q : Nat) : va_E := match zSH.getD q (9, 0) with
  | (0, n) => .inl (cI, n, .inl (fun j => h.1 (q + 1) j))
  | (1, n) => .inl (cH, n, .inr (.inr (.inr (.inr (fun j => zra bs (zlk p.2 (q + 1) j))))))
  | (c + 2, _) => .inr (c, zfs b bs p h (q + 1) c)
def zws (b bs : Nat) (cI cH : ClassId) (p : zP) (h : zH) : va_W := (List.range p.1).map (fun q => (bs + q, zce b bs cI cH p h q))
theorem zws_get {b bs : Nat} {cI cH : ClassId} {p : zP} {h : zH} {q : Nat} (hq : q < p.1) : (zws b bs cI cH p h)[q]? = some (bs + q, zce b bs cI cH p h q) := by
  unfold zws
  rw [List.getElem?_map, List.getElem?_range hq]
  rfl
theorem zws_inv {b bs : Nat} {cI cH : ClassId} {p : zP} {h : zH} {q : Nat} {x : Nat × va_E} (hx : (zws b bs cI cH p h)[q]? = some x) : q < p.1 ∧ x = (bs + q, zce b bs cI cH p h q) := by
  have hl : q < p.1 := by
    have := (List.getElem?_eq_some_iff.mp hx).1
    simpa [zws] using this
  rw [zws_get hl] at hx
  exact ⟨hl, (Option.some.inj hx).symm⟩
theorem zws_D {b bs : Nat} {cI cH : ClassId} {p : zP} {h : zH} : va_D (fun q => bs ≤ q) (zws b bs cI cH p h) := by
  refine ⟨fun i j x y hx hy hxy => ?_, fun k q hq => ?_⟩
  · obtain ⟨-, rfl⟩ := zws_inv hx
    obtain ⟨-, rfl⟩ := zws_inv hy
    have : bs + i = bs + j := hxy
    omega
  · obtain ⟨-, rfl⟩ := zws_inv hq
    exact Nat.le_add_right _ _
theorem zws_set {b bs : Nat} {cI cH : ClassId} {p p' : zP} {h h' : zH} {q : Nat} {e : va_E} (hq : q < p.1) (hp : p'.1 = p.1) (h1 : ∀ i, i < p.1 → i ≠ q → zce b bs cI cH p' h' i = zce b bs cI cH p h i) (h2 : zce b bs cI cH p' h' q = e) : (zws b bs cI cH p h).set q (bs + q, e) = zws b bs cI cH p' h' := by
  refine List.ext_getElem? fun i => ?_
  by_cases hi : i < p.1
  · rw [zws_get (by rw [hp]; exact hi)]
    by_cases hiq : i = q
    · subst hiq
      rw [List.getElem?_set_self (by simpa [zws] using hi), h2]
    · rw [List.getElem?_set_ne (Ne.symm hiq), zws_get hi, h1 i hi hiq]
  · rw [List.getElem?_eq_none (by simp [zws]; omega), List.getElem?_eq_none (by simp [zws]; omega)]
theorem zws_push {b bs : Nat} {cI cH : ClassId} {p p' : zP} {h h' : zH} {e : va_E} (hp : p'.1 = p.1 + 1) (h1 : ∀ i, i < p.1 → zce b bs cI cH p' h' i = zce b bs cI cH p h i) (h2 : zce b bs cI cH p' h' p.1 = e) : zws b bs cI cH p h ++ [(bs + p.1, e)] = zws b bs cI cH p' h' := by
  unfold zws
  rw [hp, List.range_succ, List.map_append]
  congr 1
  · refine List.map_congr_left fun i hi => ?_
    rw [h1 i (List.mem_range.mp hi)]
  · simp [h2]
theorem zcl_pos {cn a : Nat} (h : (zcl cn a).1 ≠ 9) : ∃ q, a = q + 1 ∧ q < cn ∧ zSH.getD q (9, 0) = zcl cn a := by
  unfold zcl at h ⊢
  by_cases ha : a ≤ cn
  · rw [if_pos ha] at h ⊢
    cases a with
    | zero => exact absurd rfl h
    | succ q => exact ⟨q, rfl, ha, rfl⟩
  · rw [if_neg ha] at h
    exact absurd rfl h
/-- the locals -/
def zlv (b bs : Nat) (ls : zL) : List (Nat × Value) := (List.range ls.length).filterMap fun i => match ls[i]? with | some (some v) => some (i, zcv b bs v) | _ => none
theorem zlv_mem {b bs : Nat} {ls : zL} {i : Nat} {v : Value} (h : ls[i]? = some (some v)) : (i, zcv b bs v) ∈ zlv b bs ls := by
  refine List.mem_filterMap.mpr ⟨i, List.mem_range.mpr (List.getElem?_eq_some_iff.mp h).1, ?_⟩
  rw [h]
theorem zlv_inv {b bs : Nat} {ls : zL} {q : Nat × Value} (h : q ∈ zlv b bs ls) : ∃ v, ls[q.1]? = some (some v) ∧ q.2 = zcv b bs v := by
  obtain ⟨i, -, hi⟩ := List.mem_filterMap.mp h
  cases hl : ls[i]? with
  | none => rw [hl] at hi; cases hi
  | some o =>
    cases o with
    | none => rw [hl] at hi; cases hi
    | some v =>
      rw [hl] at hi
      cases hi
      exact ⟨v, hl, rfl⟩
def zLo (b bs : Nat) (ls : zL) (Ls : Array Slot) (nL : Nat) : Prop := Ls.size = nL ∧ ls.length = nL ∧ lv_wf Ls ∧ ∀ (i : Nat) (v : Value), ls[i]? = some (some v) → Ls[i]? = some (Slot.val (zcv b bs v))
theorem zLo.has {b bs : Nat} {ls : zL} {Ls : Array Slot} {nL : Nat} (h : zLo b bs ls Ls nL) : lv_has Ls nL (zlv b bs ls) := ⟨h.1, h.2.2.1, fun q hq => by
  obtain ⟨v, h1, h2⟩ := zlv_inv hq
  rw [h2]
  exact h.2.2.2 q.1 v h1⟩
theorem zkl_len (ls : zL) (i : Nat) : (zkl ls i).length = ls.length := by
  unfold zkl
  cases i with
  | zero => rfl
  | succ j =>
    dsimp only
    split
    · split
      · simp
      · rfl
    · rfl
theorem zkl_get {ls : zL} {i j : Nat} {w : Value} (h : (zkl ls i)[j]? = some (some w)) : ls[j]? = some (some w) ∧ (j + 1 = i → ¬ w.category = 2) := by
  unfold zkl at h
  cases i with
  | zero => exact ⟨h, fun q => by omega⟩
  | succ k =>
    dsimp only at h
    cases hk : ls[k]? with
    | none =>
      rw [hk] at h
      refine ⟨h, fun q => ?_⟩
      have : j = k := by omega
      subst this
      rw [hk] at h; cases h
    | some o =>
      rw [hk] at h
      cases o with
      | none =>
        refine ⟨h, fun q => ?_⟩
        have : j = k := by omega
        subst this
        rw [hk] at h; cases h
      | some v =>
        dsimp only at h
        by_cases hc : v.category = 2
        · rw [if_pos hc] at h
          by_cases hjk : k = j
          · subst hjk
            rw [List.getElem?_set_self (List.getElem?_eq_some_iff.mp hk).1] at h
            cases h
          · rw [List.getElem?_set_ne hjk] at h
            exact ⟨h, fun q => by omega⟩
        · rw [if_neg hc] at h
          refine ⟨h, fun q => ?_⟩
          have : j = k := by omega
          subst this
          rw [hk] at h
          cases h
          exact hc
theorem zLo.put1 {b bs : Nat} {ls : zL} {Ls Ls' : Array Slot} {nL i : Nat} {v : Value} (h : zLo b bs ls Ls nL) (h' : lv_has Ls' nL ((i, zcv b bs v) :: (zlv b bs ls).filter (fun q => !(q.1 == i) && !(q.1 + 1 == i && q.2.category == 2)))) (hi : i < ls.length) : zLo b bs (zput1 ls i v) Ls' nL := by
  refine ⟨h'.1, by unfold zput1; rw [List.length_set, zkl_len]; exact h.2.1, h'.2.1, fun j w hw => ?_⟩
  unfold zput1 at hw
  by_cases hij : i = j
  · subst hij
    rw [List.getElem?_set_self (by rw [zkl_len]; exact hi)] at hw
    cases hw
    exact h'.2.2 _ List.mem_cons_self
  · rw [List.getElem?_set_ne hij] at hw
    obtain ⟨h1, h2⟩ := zkl_get hw
    refine h'.2.2 (j, zcv b bs w) (List.mem_cons_of_mem _ (List.mem_filter.mpr ⟨zlv_mem h1, ?_⟩))
    dsimp only
    rw [zcv_cat]
    by_cases hj1 : j + 1 = i
    · have := h2 hj1
      simp [Ne.symm hij, this]
    · simp [Ne.symm hij, hj1]
theorem zLo.put2 {b bs : Nat} {ls : zL} {Ls Ls' : Array Slot} {nL i : Nat} {v : Value} (h : zLo b bs ls Ls nL) (h' : lv_has Ls' nL ((i, zcv b bs v) :: (zlv b bs ls).filter (fun q => !(q.1 == i) && (!(q.1 == i + 1) && !(q.1 + 1 == i && q.2.category == 2))))) (hi : i + 1 < ls.length) : zLo b bs (zput2 ls i v) Ls' nL := by
  refine ⟨h'.1, by unfold zput2; rw [List.length_set, List.length_set, zkl_len]; exact h.2.1, h'.2.1, fun j w hw => ?_⟩
  unfold zput2 at hw
  by_cases hij1 : i + 1 = j
  · subst hij1
    rw [List.getElem?_set_self (by rw [List.length_set, zkl_len]; exact hi)] at hw
    cases hw
  · rw [List.getElem?_set_ne hij1] at hw
    by_cases hij : i = j
    · subst hij
      rw [List.getElem?_set_self (by rw [zkl_len]; omega)] at hw
      cases hw
      exact h'.2.2 _ List.mem_cons_self
    · rw [List.getElem?_set_ne hij] at hw
      obtain ⟨h1, h2⟩ := zkl_get hw
      refine h'.2.2 (j, zcv b bs w) (List.mem_cons_of_mem _ (List.mem_filter.mpr ⟨zlv_mem h1, ?_⟩))
      dsimp only
      rw [zcv_cat]
      by_cases hj1 : j + 1 = i
      · have := h2 hj1
        simp [Ne.symm hij, Ne.symm hij1, this]
      · simp [Ne.symm hij, Ne.symm hij1, hj1]
theorem zfd_in : ∀ (T : List (Nat × Nat × Nat × Nat × Nat)) (o ix : Nat), (zfd0 T o ix).2.2 ≠ 7 → ∃ q ∈ T, q.1 = o ∧ q.2.1 = ix ∧ q.2.2 = zfd0 T o ix := by
  intro T
  induction T with
  | nil => intro o ix h; exact absurd rfl h
  | cons q r ih =>
    intro o ix h
    unfold zfd0 at h ⊢
    by_cases hq : q.1 = o ∧ q.2.1 = ix
    · rw [if_pos hq] at h ⊢
      exact ⟨q, List.mem_cons_self, hq.1, hq.2, rfl⟩
    · rw [if_neg hq] at h ⊢
      obtain ⟨x, h1, h2⟩ := ih o ix h
      exact ⟨x, List.mem_cons_of_mem _ h1, h2⟩
theorem zfd_P {o ix : Nat} (h : (zfd o ix).2.2 ≠ 7) : zfdP (o, ix, zfd o ix) := by
  obtain ⟨q, h1, h2, h3, h4⟩ := zfd_in zfdT o ix h
  have := zfd_ok q h1
  obtain ⟨a, b, c⟩ := q
  dsimp only at h2 h3 h4
  subst h2; subst h3; subst h4
  exact this
theorem zco_in {α : Type} : ∀ (T : List (Nat × Nat × α)) (o ix : Nat) (v : α), zco0 T o ix = some v → (o, ix, v) ∈ T := by
  intro T
  induction T with
  | nil => intro o ix v h; cases h
  | cons q r ih =>
    intro o ix v h
    unfold zco0 at h
    by_cases hq : q.1 = o ∧ q.2.1 = ix
    · rw [if_pos hq] at h
      obtain ⟨a, b, c⟩ := q
      dsimp only at hq
      obtain ⟨rfl, rfl⟩ := hq
      cases h
      exact List.mem_cons_self
    · rw [if_neg hq] at h
      exact List.mem_cons_of_mem _ (ih o ix v h)
