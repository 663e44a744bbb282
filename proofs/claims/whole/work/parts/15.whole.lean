theorem zla_len (b bs : Nat) : ∀ (as : List Value), (lg_sl (as.map (zcv b bs))).length = (zla as).length := by
  intro as
  induction as with
  | nil => rfl
  | cons a t ih =>
    have e1 : lg_sl ((a :: t).map (zcv b bs)) = (if (zcv b bs a).category = 2 then [Slot.val (zcv b bs a), Slot.second] else [Slot.val (zcv b bs a)]) ++ lg_sl (t.map (zcv b bs)) := rfl
    have e2 : zla (a :: t) = (if a.category = 2 then [some a, none] else [some a]) ++ zla t := rfl
    rw [e1, e2, List.length_append, List.length_append, ih, zcv_cat]
    by_cases h : a.category = 2
    · rw [if_pos h, if_pos h]; rfl
    · rw [if_neg h, if_neg h]; rfl
theorem zla_get (b bs : Nat) : ∀ (as : List Value) (j i : Nat) (v : Value), (zla as)[i]? = some (some v) → (j + i, zcv b bs v) ∈ lv_args j (as.map (zcv b bs)) := by
  intro as
  induction as with
  | nil => intro j i v h; cases h
  | cons a t ih =>
    intro j i v h
    have e1 : lv_args j ((a :: t).map (zcv b bs)) = (j, zcv b bs a) :: lv_args (if (zcv b bs a).category = 2 then j + 2 else j + 1) (t.map (zcv b bs)) := rfl
    have e2 : zla (a :: t) = (if a.category = 2 then [some a, none] else [some a]) ++ zla t := rfl
    rw [e1]
    rw [e2] at h
    rw [zcv_cat]
    by_cases hc : a.category = 2
    · rw [if_pos hc] at h ⊢
      match i, h with
      | 0, h => cases h; exact List.mem_cons_self
      | 1, h => cases h
      | i + 2, h =>
        have := ih (j + 2) i v h
        rw [show j + 2 + i = j + (i + 2) by omega] at this
        exact List.mem_cons_of_mem _ this
    · rw [if_neg hc] at h ⊢
      match i, h with
      | 0, h => cases h; exact List.mem_cons_self
      | i + 1, h =>
        have := ih (j + 1) i v h
        rw [show j + 1 + i = j + (i + 1) by omega] at this
        exact List.mem_cons_of_mem _ this
theorem zini_Lo (b bs : Nat) {m : zM} {as : List Value} (hl : (zla as).length ≤ zml m) {Ls : Array Slot} (h : lv_has Ls (zml m) (lv_args 0 (as.map (zcv b bs)))) : zLo b bs (zini m as) Ls (zml m) := by
  refine ⟨h.1, ?_, h.2.1, fun i v hv => ?_⟩
  · unfold zini
    rw [List.length_append, List.length_replicate]
    omega
  · unfold zini at hv
    by_cases hi : i < (zla as).length
    · rw [List.getElem?_append_left hi] at hv
      have := zla_get b bs as 0 i v hv
      rw [Nat.zero_add] at this
      exact h.2.2 _ this
    · rw [List.getElem?_append_right (by omega)] at hv
      have := List.mem_of_getElem? hv
      rw [List.mem_replicate] at this
      cases this.2
section zwhole
variable {l : Launch} {b bs : Nat} {cI cH : ClassId} {D : va_G} {X : zX}
set_option maxHeartbeats 1000000 in
theorem zev_ok : ∀ (d N : Nat) (m : zM) (as : List Value) (ph : zP) (h : zH) (x : zR), zmP m → zev X d N m as ph h = some x → zMet b bs cI cH D X l m as ph h x := by
  intro d
  induction d with
  | zero => intro N m as ph h x _ hz; cases hz
  | succ d ih =>
    intro N k as ph h x hp hz
    unfold zev at hz
    by_cases hl : (zla as).length ≤ zml k
    · rw [if_pos hl] at hz
      refine Met.ofW (cc := zb k) (maxL := zml k) (ret := zrt k) hp.2.2.1 rfl ?_
      intro p e s m args below meth c s₁ B hml hv
      obtain ⟨rfl, hG⟩ := hv
      obtain ⟨g1, g2, g3, g4, g5, g6, hNW⟩ := hG
      have hx := B.exec
      have hb := B.bytes
      have hr := B.returns
      have hw := atoms_spec (ws := zwd k) B.pre
      have hown : s.vm.findClass (zn k).cls = some m.cls := findClass_of_methodNamed B.named
      rw [hp.2.2.2.1] at hown
      have hlocks := B.notSynchronized
      have hnm : meth.name = (zn k).name := (name_of_methodNamed B.named B.method).1
      have hts : ∀ w ∈ zTs, w.before (as.map (zcv b bs)).toArray s = true := fun w hw1 => by
        have := (List.mem_filter.mp hw1).2
        rcases Bool.or_eq_true_iff.mp this with z | z
        · exact hw w (List.mem_cons_of_mem _ (List.mem_filter.mpr ⟨hw1, z⟩))
        · exact hNW.use hw1 z
      have F : zFx p s m (as.map (zcv b bs)).toArray meth c b bs cI cH D X k := ⟨hx, hb, hml, hown, hts, fun z => hnm.trans z, g4, g5, g6, by rw [g2]; exact Nat.le_add_right _ _⟩
      have hl2 := lv_entry (as.map (zcv b bs)) (n := zml k) (by rw [zla_len]; exact hl)
      rw [lg_entry_eq]
      generalize (lg_sl (as.map (zcv b bs)) ++ List.replicate (zml k - (lg_sl (as.map (zcv b bs))).length) Slot.unset).toArray = Ls at hl2 ⊢
      have S : zSt s b bs cI cH D (zml k) ph h (zini k as) s.heap [] Ls := ⟨g1, g2, g3, va_S.rf, zini_Lo b bs hl hl2⟩
      refine zex_ok (r := zrk k as) (CF := x.2.1.1 - ph.1) (SF := zsl x.2.1.1 - zsl ph.1) (fun m as p h x _ hp hz => ih N m as p h x hp hz) F hNW (Nat.le_refl _) (Nat.le_refl _) (Nat.le_refl _) (Nat.le_refl _) ?_ N (0, zini k as, [], ph, h) hz s.heap [] Ls 0 0 S (Nat.zero_add _) (Nat.zero_add _)
      intro pc ls st H locs Ls2 i len hd hrt S2
      have hq : ∀ (v : Option Value), x.1.map (zcv b bs) = v → ∀ t : State, t.heap = H → s.WarmedH t.vm → zQc b bs cI cH D X x (as.map (zcv b bs)).toArray s (.returned v) t := fun v hv t ht hW => ⟨by rw [hv], zG_at F S2 hNW ht hW, S2.2.2.2.1.F ht⟩
      have hf := S2.2.2.2.1.2.2
      unfold zrtn at hrt
      dsimp only at hrt
      by_cases h1 : len = 1
      · rw [if_pos h1] at hrt
        subst h1
        split at hrt
        · rename_i v hk
          rw [hk] at hr
          exact W.iret (v := v) hx hb hr (hq _ (by rw [← Option.some.inj hrt]; rfl)) hf hd hlocks
        · rename_i v hk
          rw [hk] at hr
          by_cases hv : v = 0 ∨ v = 1
          · rw [if_pos hv] at hrt
            exact W.zret (v := v) (ty := .boolean) hx hb hr (by rcases hv with rfl | rfl <;> rfl) (hq _ (by rw [← Option.some.inj hrt]; rfl)) hf hd hlocks
          · rw [if_neg hv] at hrt; cases hrt
        · rename_i v hk
          rw [hk] at hr
          exact W.lret (v := v) hx hb hr (hq _ (by rw [← Option.some.inj hrt]; rfl)) hf hd hlocks
        · rename_i a nm hk
          rw [hk] at hr
          exact W.aret (v := .ref (zad b bs a)) hx hb hr (Or.inl ⟨_, rfl⟩) (Or.inr ⟨_, rfl⟩) (hq _ (by rw [← Option.some.inj hrt]; rfl)) hf hd hlocks
        · rename_i hk
          rw [hk] at hr
          exact W.vret hx hb hr (hq _ (by rw [← Option.some.inj hrt]; rfl)) hf hd hlocks
        · cases hrt
      · rw [if_neg h1] at hrt; cases hrt
    · rw [if_neg hl] at hz; cases hz
end zwhole
def zh0 : zH := (fun _ _ => 0, 0)
/-- the claim, out of what the evaluator says of the law -/
theorem zwhole_of (HL : ∀ (L : Nat) (xs : Nat → Int32), L ≤ 3072 → ∃ n N d h', zex (L, xs) 15 m_L_law (zev (L, xs) d N) n (0, [some (.ref 0), none, none, none], [], (0, []), zh0) = some (some (.int 1), zPH, h'))
    {p : Program} {e : Env} {s : State} {m : MethodId} {below : List Frame} {meth : Method} {c : Code} (l : Launch) {b L : Nat} {xs : Nat → Int32} (hL : L ≤ 3072) (C0 : lw_At p s m meth c b L xs) : W p l e room_1 s m #[Value.ref b] below meth c s.heap [] 0 0 (lw_Z below #[Value.ref b] s) (entryFrame m ([Value.ref b] : List Value).toArray 4) := by
  obtain ⟨hx, hb, hr, hml, hown, hts0, hX, hbl, hlocks, hgv⟩ := id C0
  have hts : ∀ w ∈ zTs, w.before #[Value.ref b] s = true := fun w hw => hts0 w (List.mem_filter.mp hw).1
  obtain ⟨c0, iS0, k0⟩ := u_known (C := zcn 0) (T := zF 0) (N := 9) (n := 9) hts zuw_0 (hts _ zis_0)
  obtain ⟨c1, iS1, k1⟩ := u_known (C := zcn 1) (T := zF 1) (N := 3) (n := 3) hts zuw_1 (hts _ zis_1)
  obtain ⟨c2, iS2, k2⟩ := u_known (C := zcn 2) (T := zF 2) (N := 2) (n := 2) hts zuw_2 (hts _ zis_2)
  obtain ⟨c3, iS3, k3⟩ := u_known (C := zcn 3) (T := zF 3) (N := 10) (n := 10) hts zuw_3 (hts _ zis_3)
  obtain ⟨c4, iS4, k4⟩ := u_known (C := zcn 4) (T := zF 4) (N := 35) (n := 35) hts zuw_4 (hts _ zis_4)
  obtain ⟨dC, dI, hKc⟩ : ∃ (dC : Nat → ClassId) (dI : Nat → Nat → Nat), ∀ (k : Nat) (q : vw_C), zcls[k]? = some q → u_Kn s q.1 q.2.1 q.2.2 (dC k) (dI k) := by
    refine ⟨fun k => match k with | 0 => c0 | 1 => c1 | 2 => c2 | 3 => c3 | _ => c4, fun k => match k with | 0 => iS0 | 1 => iS1 | 2 => iS2 | 3 => iS3 | _ => iS4, ?_⟩
    intro k q hq
    match k, hq with
    | 0, hq => cases hq; exact k0
    | 1, hq => cases hq; exact k1
    | 2, hq => cases hq; exact k2
    | 3, hq => cases hq; exact k3
    | 4, hq => cases hq; exact k4
    | k + 5, hq => cases hq
  obtain ⟨cI, kI, compI, i1, i2, i3⟩ := Cond.arrayClass_spec (hts _ zarri)
  obtain ⟨compH, cH, kH, j1, j2, j3, j4, j5⟩ := Cond.arrayOver_spec (hts _ zarrh)
  have hK : va_K (dC, dI) zcls [(cI, .int), (cH, .object "SeenFromBehind$Hill")] s := by
    refine ⟨hKc, fun k q hq => ?_⟩
    match k, hq with
    | 0, hq => cases hq; exact ⟨fun n z => ⟨(fun k h => by cases h), kI, i2, compI, i3⟩, i1⟩
    | 1, hq => cases hq; exact ⟨fun n z => ⟨(fun k h => by cases h), kH, j3, compH, j4⟩, kH, compH, j3, j4, j1, j5⟩
    | k + 2, hq => cases hq
  have hNW : zNW s := fun w hw hn => by
    have h1 := hts w hw
    cases w with
    | fieldLinkNest a i x n d o => exact va_Nw.of rfl h1
    | methodLinkNest a i x o => exact va_Nw.of rfl h1
    | arrayOver t => cases t with
      | object C => exact va_AO.use (va_AO.of h1)
      | _ => cases hn
    | _ => cases hn
  obtain ⟨n, N, d, h', hz⟩ := HL L xs hL
  have F : zFx p s m #[Value.ref b] meth c b s.heap.size cI cH (dC, dI) (L, xs) m_L_law := ⟨hx, hb, hml, hown, hts, fun z => absurd z (by decide), hK, hX, hbl, Nat.le_refl _⟩
  have hl := lv_entry ([.ref b]) (n := 4) (Nat.le_of_ble_eq_true rfl)
  rw [lg_entry_eq]
  generalize (lg_sl ([.ref b]) ++ List.replicate (4 - (lg_sl ([.ref b])).length) Slot.unset).toArray = Ls at hl ⊢
  have hl : lv_has Ls 4 [(0, .ref b)] := hl
  have S : zSt s b s.heap.size cI cH (dC, dI) (zml m_L_law) (0, []) zh0 [some (.ref 0), none, none, none] s.heap [] Ls := by
    refine ⟨fun k q hq => by simp [zws] at hq, rfl, Nat.zero_le _, va_S.rf, hl.1, rfl, hl.2.1, fun i v hv => ?_⟩
    match i, hv with
    | 0, hv => cases hv; exact hl.2.2 _ List.mem_cons_self
    | 1, hv => cases hv
    | 2, hv => cases hv
    | 3, hv => cases hv
    | i + 4, hv => cases hv
  refine zex_ok (r := 15) (CF := 140) (SF := zsl 140) (x := (some (.int 1), zPH, h')) (fun m as p h x _ hp hz => zev_ok d N m as p h x hp hz) F hNW (Nat.le_of_ble_eq_true rfl) (Nat.le_of_ble_eq_true rfl) (Nat.le_of_ble_eq_true rfl) (by decide +kernel) ?_ n (0, [some (.ref 0), none, none, none], [], (0, []), zh0) hz s.heap [] Ls 0 0 S (by show 0 + (140 - 0) = 140; rfl) (by show 0 + (zsl 140 - zsl 0) = zsl 140; decide +kernel)
  intro pc ls st H locs Ls2 i len hd hrt S2
  have hf := S2.2.2.2.1.2.2
  unfold zrtn at hrt
  dsimp only at hrt
  by_cases h1 : len = 1
  · rw [if_pos h1] at hrt
    subst h1
    split at hrt
    · rename_i v hk; cases hk
    · rename_i v hk
      by_cases hv : v = 0 ∨ v = 1
      · rw [if_pos hv] at hrt
        cases hrt
        refine va_forget (fun q hq => hf q hq) ?_
        refine W.widen (k := 600000) (n := 7302249) (Nat.le_of_ble_eq_true rfl) (by decide +kernel) ?_
        exact lw_ret hx hb hr hlocks hd
      · rw [if_neg hv] at hrt; cases hrt
    · rename_i v hk; cases hk
    · rename_i a nm hk; cases hk
    · rename_i hk; cases hk
    · cases hrt
  · rw [if_neg h1] at hrt; cases hrt
