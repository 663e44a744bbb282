/-! leave; one off the hill -/
/-- all but the cells is in bounds -/
def tU (t : zT) : Prop := tn t ≤ 6 ∧ ∀ p, p < tn t → rg (tK t p) 6 ∧ rg (tF t p) 10 ∧ rg (tD t p) 4 ∧ rg (tS t p) 100
theorem tV.U {t : zT} (V : tV t) : tU t := ⟨V.1, fun p hp => by obtain ⟨a, b, c, d, e⟩ := V.2 p hp; exact ⟨a, b, d, e⟩⟩
theorem tU.wC {t : zT} (U : tU t) {p : Nat} {v : Int32} : tU (wC t p v) := U
theorem tU_rch {t : zT} (V : tU t) {p : Nat} (hp : p < tn t) : ∃ e, e < 10 ∧ rch (tK t p) (tF t p) = nI e := by
  obtain ⟨⟨k, hk, e1⟩, ⟨f, hf, e2⟩, -⟩ := V.2 p hp
  rw [e1, e2]
  exact rch_rg k hk f hf
theorem tU_dpt {t : zT} (V : tU t) {p : Nat} (hp : p < tn t) : ∃ e, e < 12 ∧ dpt (tK t p) (tF t p) = nI e := by
  obtain ⟨⟨k, hk, e1⟩, ⟨f, hf, e2⟩, -⟩ := V.2 p hp
  rw [e1, e2]
  exact dpt_rg k hk f hf
theorem whoF_off {C : zA} {q : Nat} {u v c : Int32} (hu : u ≠ c) (hv : v ≠ c) : ∀ (m p : Nat), whoF (zua C q u) c m p = whoF (zua C q v) c m p := by
  intro m
  induction m with
  | zero => intro p; rfl
  | succ m ih =>
    intro p
    unfold whoF
    rw [ih]
    by_cases e : p = q
    · have e1 : zua C q u p = u := by unfold zua; rw [if_pos e]
      have e2 : zua C q v p = v := by unfold zua; rw [if_pos e]
      rw [e1, e2, if_neg hu, if_neg hv]
    · have e1 : zua C q u p = C p := by unfold zua; rw [if_neg e]
      have e2 : zua C q v p = C p := by unfold zua; rw [if_neg e]
      rw [e1, e2]
theorem rayF_off {n : Nat} {C : zA} {q : Nat} {u v w : Int32} (hw : rg w 4) (hu : ¬ rg u 36) (hv : ¬ rg v 36) : ∀ (m : Nat) (c : Int32), rg c 36 → rayF n (zua C q u) w m c = rayF n (zua C q v) w m c := by
  intro m
  induction m with
  | zero => intro c _; rfl
  | succ m ih =>
    intro c hc
    obtain ⟨j, hj, rfl⟩ := hc
    obtain ⟨i, hi, rfl⟩ := id hw
    unfold rayF
    rcases bes_rg j hj i hi with e | e
    · rw [if_pos e, if_pos e]
    · by_cases e0 : bes (nI j) (nI i) = -1
      · rw [if_pos e0, if_pos e0]
      · have e1 : who n (zua C q u) (bes (nI j) (nI i)) = who n (zua C q v) (bes (nI j) (nI i)) := whoF_off (fun z => hu (by rw [z]; exact e)) (fun z => hv (by rw [z]; exact e)) _ _
        rw [if_neg e0, if_neg e0, e1, ih _ e]
theorem rayF_none {n : Nat} {C : zA} {w : Int32} : ∀ m, rayF n C w m (-1) = -9 := by
  intro m
  cases m with
  | zero => rfl
  | succ m =>
    unfold rayF
    have : bes (-1) w = -1 := by unfold bes; rw [if_pos (by decide)]
    rw [if_pos this]
theorem ahd_off {t : zT} (V : tV t) {p q : Nat} (hp : p < tn t) (hpq : p ≠ q) {u v : Int32} (hu : ¬ rg u 36) (hv : ¬ rg v 36) : ahd (wC t q u) p = ahd (wC t q v) p := by
  have v := V.2 p hp
  have e1 : ∀ x, tC (wC t q x) p = tC t p := fun x => by
    show zua (tC t) q x p = _
    unfold zua
    rw [if_neg hpq]
  unfold ahd ray
  rw [e1, e1]
  exact rayF_off v.2.2.2.1 hu hv _ _ v.2.2.1
theorem ahd_self {t : zT} {q : Nat} : ahd (wC t q (-1)) q = -9 := by
  have e1 : tC (wC t q (-1)) q = -1 := by
    show zua (tC t) q (-1) q = _
    unfold zua
    rw [if_pos rfl]
  unfold ahd ray
  rw [e1]
  exact rayF_none _
theorem zup_bk {I : Nat → Nat → Int32} {a j : Nat} {u v : Int32} (h : I a j = v) : zup (zup I a j u) a j v = I := by
  funext b i
  unfold zup
  by_cases q : b = a ∧ i = j
  · rw [if_pos q, q.1, q.2, h]
  · rw [if_neg q, if_neg q]
section z42
variable {X : zX} {h h0 : zH} {w : zW} {mx mm : zM} {as : List Value} {t : zT} {a : Nat}
theorem s_aheadU (H : isH a) (R : HR h a t) (V : tU t) {p : Nat} (hp : p < tn t) : zcf X m_H_ahead [.ref a, .int (nI p)] h = some (some (.int (ahd t p)), h) := by
  obtain ⟨e, he, h1⟩ := tU_rch V hp
  rw [e_H_ahead H, s_facOf H R V.1 hp, zbI_some, s_reachOf H R V.1 hp, zbI_some, s_nextTo H R V.1 hp ⟨e, by omega, h1⟩, zbI_some]
  rfl
theorem s_watU (H : isH a) (R : HR h a t) (V : tU t) (x : Int32) : ∀ (m p : Nat) (y : Int32), p + m = tn t → zrn X 3 m_H_watchers 4 [some (.ref a), some (.int x), some (.int y), some (.int (nI p))] [] h = some (some (.int (fold (fun q y => y ||| (if ahd t q = x then bt q else 0)) m p y)), h) := by
  intro m
  have hn := V.1
  induction m with
  | zero =>
    intro p y hp
    rw [b_H_watchers_4 H, R.1, if_pos (nI_le (by omega) (by omega))]
    rfl
  | succ m ih =>
    intro p y hp
    rw [b_H_watchers_4 H, R.1, if_neg (nI_ge (by omega) (by omega)), s_aheadU H R V (by omega), zbI_some]
    unfold fold
    by_cases h1 : ahd t p = x
    · rw [if_pos h1, if_pos h1, s_bitOf (by omega), zbI_some, nI_add1]
      exact ih (p + 1) _ (by omega)
    · rw [if_neg h1, if_neg h1, nI_add1]
      exact ih (p + 1) _ (by omega)
theorem s_watchersU (H : isH a) (R : HR h a t) (V : tU t) {x : Int32} : zcf X m_H_watchers [.ref a, .int x] h = some (some (.int (wat t x)), h) := by
  rw [e_H_watchers H]
  exact s_watU H R V x (tn t) 0 0 (Nat.zero_add _)
/-- the model looks from one who stands on the hill -/
theorem m_aheadV (R : MR h t) (hn : tn t ≤ 6) {p : Nat} (hp : p < tn t) (v : rg (tK t p) 6 ∧ rg (tF t p) 10 ∧ rg (tC t p) 36 ∧ rg (tD t p) 4) : zcf X m_M_aheadOf [.ref 123, .int (nI p)] h = some (some (.int (ahd t p)), h) := by
  obtain ⟨e, he, h1⟩ : ∃ e, e < 10 ∧ rch (tK t p) (tF t p) = nI e := by
    obtain ⟨⟨k, hk, e1⟩, ⟨f, hf, e2⟩, -⟩ := v
    rw [e1, e2]
    exact rch_rg k hk f hf
  rw [e_M_aheadOf, if_pos (zin_nI (by omega) (by decide)), if_pos (zin_nI (by omega) (by decide)), m_reachOf R hn hp, zbI_some, nI_clamp (by omega), (R.2 p hp).2.2.1, (R.2 p hp).2.2.2.1, m_nextFrom R hn v.2.2.1 v.2.2.2 ⟨e, by omega, h1⟩, zbI_some]
  rfl
theorem s_place (H : isH a) {p : Nat} (hp : p < 6) {c : Int32} : zcf X m_H_place [.ref a, .int (nI p), .int c] h = some (none, (zup h.1 (a + 3) p c, h.2)) := by
  rw [e_H_place H, s_put (b := a + 3) H.k2 (by omega) hp (by decide), zbV_some]
theorem s_face (H : isH a) {p : Nat} (hp : p < 6) {c : Int32} : zcf X m_H_face [.ref a, .int (nI p), .int c] h = some (none, (zup h.1 (a + 4) p c, h.2)) := by
  rw [e_H_face H, s_put (b := a + 4) H.k3 (by omega) hp (by decide), zbV_some]
/-- those who watch x while q is off the hill -/
theorem m_levF {q : Nat} (x c : Int32) (V : tV t) (hq : q < tn t) (R : MR h (wC t q (-99))) : ∀ (m p : Nat) (y : Int32), p + m = tn t → zrn X 4 m_M_leave 41 [some (.ref 123), some (.int x), some (.int (nI q)), some (.int c), some (.int y), some (.int (nI p))] [] h = some (some (.int (fold (fun p y => y ||| (if p = q then 0 else (if ahd (wC t q (-99)) p = x then bt p else 0))) m p y)), (zup h.1 126 q c, h.2)) := by
  have hn := V.1
  intro m
  induction m with
  | zero =>
    intro p y hp
    rw [b_M_leave_41, R.1, if_pos (show nI (tn (wC t q (-99))) ≤ nI p from nI_le (a := tn t) (b := p) (by omega) (by omega)), if_pos (zin_nI (by omega) (by decide)), nI_clamp (by omega)]
    rfl
  | succ m ih =>
    intro p y hp
    have hp6 : p < tn t := by omega
    rw [b_M_leave_41, R.1, if_neg (show ¬ nI (tn (wC t q (-99))) ≤ nI p from nI_ge (a := p) (b := tn t) (by omega) (by omega)), nI_add1]
    show _ = some (some (Value.int (fold (fun p y => y ||| (if p = q then 0 else (if ahd (wC t q (-99)) p = x then bt p else 0))) m (p + 1) (y ||| (if p = q then 0 else (if ahd (wC t q (-99)) p = x then bt p else 0))))), (zup h.1 126 q c, h.2))
    by_cases e : p = q
    · rw [if_pos (show nI p = nI q by rw [e]), ih _ _ (by omega), if_pos e]
    · rw [if_neg (fun z => e ((nI_eq (by omega) (by omega)).mp z)), if_neg e]
      obtain ⟨v1, v2, v3, v4, v5⟩ := V.2 p hp6
      have v : rg (tC (wC t q (-99)) p) 36 := by
        show rg (zua (tC t) q (-99) p) 36
        unfold zua
        rw [if_neg e]
        exact v3
      rw [m_aheadV R hn hp6 ⟨v1, v2, v, v4⟩, zbI_some]
      exact ih _ _ (by omega)
theorem ok_leave (hX : XP h w) (hM : MP h w) (V : WV w) {x y : Int32} : OK2 X m_X_leave m_M_leave [.int x, .int y] h := by
  have h6 : tn (wt w) ≤ 6 := V.1.1.1
  refine OK2.a2 (A := fun h1 => (zbV (zcf X m_H_become [.ref 8, .ref 2] h1) fun h5 => (zbV (zcf X m_H_place [.ref 8, .int y, .int (-1)] h5) fun h6 => (zbI (zcf X m_H_watchers [.ref 8, .int x] h6) fun v8 h7 => (some (some (.int v8), h7)))))) (B := fun h1 => (if zin y 7 = true then (if zin y 7 = true then zrn X 4 m_M_leave 41 [some (.ref 123), some (.int x), some (.int y), some (.int (h1.1 126 (Int32.toNatClampNeg y))), some (.int 0), some (.int 0)] [] ((zup h1.1 126 (Int32.toNatClampNeg y) (-99)), h1.2) else none) else none)) hX hM V e_X_leave (fun _ => e_M_leave) fun p q hp hq hne e1 e2 => ⟨wat (wC (wt w) q (-1)) (nI p), ?_, fun H R => ?_⟩
  · obtain ⟨h1, a1, a2⟩ := s_mind (X := X) hX V
    refine ⟨(zup h1.1 11 q (-1), h1.2), ?_, a2.2.1.tr (FM.up (by unfold pXq; decide))⟩
    rw [e1, e2, a1, zbV_some, s_place hH_8 (by omega), zbV_some, s_watchersU hH_8 (HR.uC a2.1) a2.2.2.U.wC, zbI_some]
  · have R0 : MR H (wt w) := R.1.1
    have ew : (H.1 126 q) = tC (wt w) q := (R0.2 q hq).2.2.1
    have a := m_levF (X := X) (h := (zup H.1 126 q (-99), H.2)) (nI p) (tC (wt w) q) V.1.1 hq (MR.uC R0) (tn (wt w)) 0 0 (Nat.zero_add _)
    have eh : (zup (zup H.1 126 q (-99)) 126 q (tC (wt w) q), H.2) = H := by rw [zup_bk ew]
    refine ⟨H, ?_, R, FM.rf⟩
    show _ = some (some (Value.int (wat (wC (wt w) q (-1)) (nI p))), H)
    rw [e1, e2, if_pos (zin_nI (by omega) (by decide)), if_pos (zin_nI (by omega) (by decide)), nI_clamp (by omega), ew]
    refine a.trans ?_
    dsimp only
    rw [eh]
    have : fold (fun p' y => y ||| (if p' = q then 0 else (if ahd (wC (wt w) q (-99)) p' = nI p then bt p' else 0))) (tn (wt w)) 0 0 = wat (wC (wt w) q (-1)) (nI p) := by
      refine fold_congr _ _ _ fun p' y _ h2 => ?_
      by_cases z : p' = q
      · have : ¬ (-9 : Int32) = nI p := by
          have : ∀ p, p < 6 → ¬ (-9 : Int32) = nI p := by decide
          exact this p (by omega)
        rw [if_pos z, z, ahd_self, if_neg this]
      · rw [if_neg z, ahd_off (t := wt w) (q := q) V.1.1 (by omega) z (u := -99) (v := -1) (by unfold rg; rintro ⟨j, hj, e⟩; revert e; revert j; decide) (by unfold rg; rintro ⟨j, hj, e⟩; revert e; revert j; decide)]
    exact congrArg (fun r => some (some (Value.int r), H)) this
end z42
