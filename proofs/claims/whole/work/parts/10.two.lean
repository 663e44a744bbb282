theorem zcl_t {cn a t : Nat} (ht : t ≠ 9) (h : (zcl cn a).1 = t) : ∃ q n, a = q + 1 ∧ q < cn ∧ zcl cn a = (t, n) ∧ zSH.getD q (9, 0) = (t, n) := by
  obtain ⟨q, h1, h2, h3⟩ := zcl_pos (cn := cn) (a := a) (by rw [h]; exact ht)
  cases hz : zcl cn a with
  | mk x y =>
    rw [hz] at h h3
    dsimp only at h
    subst h
    exact ⟨q, y, h1, h2, rfl, h3⟩
theorem zin_vp {x : Int32} {n : Nat} (h : zin x n = true) : vp_in x n := by
  unfold zin at h
  rw [Bool.and_eq_true] at h
  have h1 := of_decide_eq_true h.1
  have h2 := of_decide_eq_true h.2
  rintro (q | q)
  · exact h1 q
  · omega
theorem zSH_296 : ∀ i, i < 140 → (zSH.getD i (9, 0)).2 ≤ 296 := by decide +kernel
theorem zfk_lt : ∀ c, c < 5 → ∀ j, j < zNf c → zfk c j < 4 := by decide +kernel
theorem zlk_fresh : ∀ (w : List (Nat × Nat × Nat)) (n j : Nat), (w.all fun q => decide (q.1 ≤ n)) = true → zlk w (n + 1) j = 0 := by
  intro w
  induction w with
  | nil => intro n j _; rfl
  | cons q r ih =>
    intro n j h
    rw [List.all_cons, Bool.and_eq_true] at h
    have h1 := of_decide_eq_true h.1
    unfold zlk
    rw [if_neg (by omega)]
    exact ih n j h.2
section ztwo
variable {p : Program} {l : Launch} {e : Env} {R : Room} {s : State} {m : MethodId} {args : Array Value} {below : List Frame} {meth : Method} {c : Code} {H : Heap} {locs : List Loc} {cells slots : Nat} {Q : State → Prop}
variable {b bs : Nat} {cI cH : ClassId} {D : va_G} {X : zX} {k : zM} {pc pc' len : Nat} {ls ls' : zL} {st st' : List Value} {ph ph' : zP} {h h' : zH} {Ls : Array Slot}
theorem zk_ald {s' : zS} (F : zFx p s m args meth c b bs cI cH D X k) (S : zSt s b bs cI cH D (zml k) ph h ls H locs Ls) (hd : decode (zb k) pc = .ok (.iaload, len)) (hz : zxAld X len (pc, ls, st, ph, h) = some s') (kk : zKK p l e R s m args below meth c cells slots Q b bs cI cH D k ph s') : W p l e R s m args below meth c H locs cells slots Q (F0 m pc Ls (st.map (zcv b bs))) := by
  obtain ⟨hx, hb, hml, hown, hts, hnm, hK, hX, hbb, hbs⟩ := F
  obtain ⟨hP, hsz, h140, hS, hL⟩ := id S
  unfold zxAld at hz
  split at hz
  · rename_i pc1 ls1 x r p1 h1 heq
    cases heq
    by_cases hc : len = 1 ∧ zin x X.1 = true
    · rw [if_pos hc] at hz
      cases hz
      obtain ⟨rfl, h2⟩ := hc
      exact va_sld hx hb hX (Nat.lt_of_lt_of_le hbb hbs) (Nat.not_le.mpr hbb) hS (zin_vp h2) hd (zW0 (kk H locs Ls S))
    · rw [if_neg hc] at hz; cases hz
  · rename_i pc1 ls1 x a r p1 h1 heq
    cases heq
    by_cases hc : len = 1 ∧ (zcl ph.1 (a + 1)).1 = 0 ∧ zin x (zcl ph.1 (a + 1)).2 = true
    · rw [if_pos hc] at hz
      cases hz
      obtain ⟨rfl, h1, h2⟩ := hc
      obtain ⟨q, n, e1, e2, e3, e4⟩ := zcl_t (by decide) h1
      cases e1
      rw [e3] at h2
      have hw := zws_get (b := b) (bs := bs) (cI := cI) (cH := cH) (p := ph) (h := h) e2
      rw [zce_int e4] at hw
      exact va_iald hx hb hK hP _ 0 hw rfl (zin_vp h2) hd (zW0 (kk H locs Ls S))
    · rw [if_neg hc] at hz; cases hz
  · cases hz
theorem zk_ast {s' : zS} (F : zFx p s m args meth c b bs cI cH D X k) (S : zSt s b bs cI cH D (zml k) ph h ls H locs Ls) (hd : decode (zb k) pc = .ok (.iastore, len)) (hz : zxAst len (pc, ls, st, ph, h) = some s') (kk : zKK p l e R s m args below meth c cells slots Q b bs cI cH D k ph s') : W p l e R s m args below meth c H locs cells slots Q (F0 m pc Ls (st.map (zcv b bs))) := by
  obtain ⟨hx, hb, hml, hown, hts, hnm, hK, hX, hbb, hbs⟩ := F
  obtain ⟨hP, hsz, h140, hS, hL⟩ := id S
  unfold zxAst at hz
  split at hz
  · rename_i pc1 ls1 v x a r p1 h1 heq
    cases heq
    by_cases hc : len = 1 ∧ (zcl ph.1 a).1 = 0 ∧ zin x (zcl ph.1 a).2 = true
    · rw [if_pos hc] at hz
      cases hz
      obtain ⟨rfl, h1, h2⟩ := hc
      obtain ⟨q, n, rfl, e2, e3, e4⟩ := zcl_t (by decide) h1
      rw [e3] at h2
      have hw := zws_get (b := b) (bs := bs) (cI := cI) (cH := cH) (p := ph) (h := h) e2
      rw [zce_int e4] at hw
      refine W.iast hx hb (hP _ _ hw) ((hK.2 0 _ rfl).1 n (fun j => .int (h.1 (q + 1) j))) (fun z => by cases z) (by show ¬ (x < 0 ∨ (arrV _ _ _).slots.size ≤ _); rw [arrV_size]; exact zin_vp h2) rfl rfl hd fun H1 z1 z2 z3 => ?_
      have hat : va_at D zcls (bs + q, .inl (cI, n, .inl (fun j => zup h.1 (q + 1) x.toNatClampNeg v (q + 1) j))) H1 := by
        show H1[bs + q]? = some (vp_cell _ _)
        rw [z1]
        rw [vp_cell_i, vp_cell_i, arrV_store]
        congr 2
        funext j
        unfold updV zup
        by_cases hj : j = x.toNatClampNeg
        · rw [if_pos hj, if_pos ⟨rfl, hj⟩]
        · rw [if_neg hj, if_neg (fun z => hj z.2)]
      have hP1 := hP.set zws_D hw hat z3
      rw [zws_set (p := ph) (h := h) (p' := ph) (h' := (zup h.1 (q + 1) x.toNatClampNeg v, h.2)) e2 rfl (fun i hi hne => zce_ext (fun j => by show zup h.1 (q + 1) _ v (i + 1) j = _; unfold zup; rw [if_neg (by omega)]) (fun _ => rfl) (Or.inl rfl)) (zce_int e4)] at hP1
      exact zW0 (kk H1 _ Ls ⟨hP1, by rw [z2]; exact hsz, h140, hS.put z2 z3 (Nat.le_add_right _ _), hL⟩)
    · rw [if_neg hc] at hz; cases hz
  · cases hz
theorem zk_qld {s' : zS} (F : zFx p s m args meth c b bs cI cH D X k) (S : zSt s b bs cI cH D (zml k) ph h ls H locs Ls) (hd : decode (zb k) pc = .ok (.aaload, len)) (hz : zxQld len (pc, ls, st, ph, h) = some s') (kk : zKK p l e R s m args below meth c cells slots Q b bs cI cH D k ph s') : W p l e R s m args below meth c H locs cells slots Q (F0 m pc Ls (st.map (zcv b bs))) := by
  obtain ⟨hx, hb, hml, hown, hts, hnm, hK, hX, hbb, hbs⟩ := F
  obtain ⟨hP, hsz, h140, hS, hL⟩ := id S
  unfold zxQld at hz
  split at hz
  · rename_i pc1 ls1 x a r p1 h1 heq
    cases heq
    by_cases hc : len = 1 ∧ (zcl ph.1 a).1 = 1 ∧ zin x (zcl ph.1 a).2 = true
    · rw [if_pos hc] at hz
      cases hz
      obtain ⟨rfl, h1, h2⟩ := hc
      obtain ⟨q, n, rfl, e2, e3, e4⟩ := zcl_t (by decide) h1
      rw [e3] at h2
      have hw := zws_get (b := b) (bs := bs) (cI := cI) (cH := cH) (p := ph) (h := h) e2
      rw [zce_row e4] at hw
      refine va_aldq hx hb hK hP _ 1 hw rfl (zin_vp h2) hd ?_
      rw [zra_rf b]
      exact zW0 (kk H locs Ls S)
    · rw [if_neg hc] at hz; cases hz
  · cases hz
theorem zk_qst {s' : zS} (F : zFx p s m args meth c b bs cI cH D X k) (S : zSt s b bs cI cH D (zml k) ph h ls H locs Ls) (hd : decode (zb k) pc = .ok (.aastore, len)) (hz : zxQst len (pc, ls, st, ph, h) = some s') (kk : zKK p l e R s m args below meth c cells slots Q b bs cI cH D k ph s') : W p l e R s m args below meth c H locs cells slots Q (F0 m pc Ls (st.map (zcv b bs))) := by
  obtain ⟨hx, hb, hml, hown, hts, hnm, hK, hX, hbb, hbs⟩ := F
  obtain ⟨hP, hsz, h140, hS, hL⟩ := id S
  unfold zxQst at hz
  split at hz
  · rename_i pc1 ls1 v x a r p1 h1 heq
    cases heq
    by_cases hc : len = 1 ∧ (zcl ph.1 a).1 = 1 ∧ zin x (zcl ph.1 a).2 = true ∧ zcl ph.1 (v + 1) = (2, 9)
    · rw [if_pos hc] at hz
      cases hz
      obtain ⟨rfl, h1, h2, h3⟩ := hc
      obtain ⟨q, n, rfl, e2, e3, e4⟩ := zcl_t (by decide) h1
      obtain ⟨v', n', w1, w2, w3, w4⟩ := zcl_t (t := 2) (by decide) (by rw [h3])
      cases w1
      rw [e3] at h2
      have hw := zws_get (b := b) (bs := bs) (cI := cI) (cH := cH) (p := ph) (h := h) e2
      rw [zce_row e4] at hw
      have hv := zws_get (b := b) (bs := bs) (cI := cI) (cH := cH) (p := ph) (h := h) w2
      rw [zce_obj (c := 0) w4] at hv
      have h2 := zin_vp h2
      have hlt : x.toNatClampNeg < n := Nat.not_le.mp fun q => h2 (Or.inr q)
      have h0 : ¬ x < 0 := fun q => h2 (Or.inl q)
      obtain ⟨r', hr', cellV, g1, g2, g3, -⟩ := hP _ _ hv
      have hcls := (hK.1 0 _ rfl).2
      obtain ⟨kA, comp, k1, k2, k3, -⟩ := (hK.2 1 _ rfl).2
      have hcomp : comp = D.1 0 := Option.some.inj (k3.symm.trans hcls.1)
      subst hcomp
      obtain ⟨kC, hkC, -⟩ := hcls.2
      refine W.aast hx hb (hP _ _ hw) (fun q h => by cases h) (fun h => by cases h) k1 k2 rfl hkC ⟨h0, by show _ < (arrV _ _ _).slots.size; rw [arrV_size]; exact hlt⟩ g1 (fun q h => by rw [g3] at h; cases h) (by rw [g2]; exact hkC) (by rw [g2]; exact va_assign hcls) rfl rfl hd fun H1 z1 z2 z3 => ?_
      have hat : va_at D zcls (bs + q, .inl (cH, n, .inr (.inr (.inr (.inr (fun j => zra bs (zlk ((q + 1, x.toNatClampNeg, v + 1) :: ph.2) (q + 1) j))))))) H1 := by
        show H1[bs + q]? = some (vp_cell _ _)
        rw [z1]
        rw [vp_cell_q, vp_cell_q, arrV_store]
        congr 2
        funext j
        unfold updV
        show _ = va_rf (zra bs (if q + 1 = q + 1 ∧ x.toNatClampNeg = j then v + 1 else zlk ph.2 (q + 1) j))
        by_cases hj : j = x.toNatClampNeg
        · rw [if_pos hj, if_pos ⟨rfl, hj.symm⟩]
          rfl
        · rw [if_neg hj, if_neg (fun z => hj z.2.symm)]
      have hP1 := hP.set zws_D hw hat z3
      rw [zws_set (p := ph) (h := h) (p' := (ph.1, (q + 1, x.toNatClampNeg, v + 1) :: ph.2)) (h' := h) e2 rfl (fun i hi hne => zce_ext (fun _ => rfl) (fun j => by show (if q + 1 = i + 1 ∧ _ then _ else _) = _; rw [if_neg (by omega)]) (Or.inl rfl)) (zce_row e4)] at hP1
      exact zW0 (kk H1 _ Ls ⟨hP1, by rw [z2]; exact hsz, h140, hS.put z2 z3 (Nat.le_add_right _ _), hL⟩)
    · rw [if_neg hc] at hz; cases hz
  · cases hz
theorem zk_len {s' : zS} (F : zFx p s m args meth c b bs cI cH D X k) (S : zSt s b bs cI cH D (zml k) ph h ls H locs Ls) (hd : decode (zb k) pc = .ok (.arraylength, len)) (hz : zxLen X len (pc, ls, st, ph, h) = some s') (kk : zKK p l e R s m args below meth c cells slots Q b bs cI cH D k ph s') : W p l e R s m args below meth c H locs cells slots Q (F0 m pc Ls (st.map (zcv b bs))) := by
  obtain ⟨hx, hb, hml, hown, hts, hnm, hK, hX, hbb, hbs⟩ := F
  obtain ⟨hP, hsz, h140, hS, hL⟩ := id S
  unfold zxLen at hz
  split at hz
  · rename_i pc1 ls1 r p1 h1 heq
    cases heq
    by_cases hc : len = 1
    · rw [if_pos hc] at hz
      cases hz
      subst hc
      exact va_slen hx hb hX (Nat.lt_of_lt_of_le hbb hbs) (Nat.not_le.mpr hbb) hS hd (zW0 (kk H locs Ls S))
    · rw [if_neg hc] at hz; cases hz
  · rename_i pc1 ls1 a r p1 h1 heq
    cases heq
    by_cases hc : len = 1 ∧ ((zcl ph.1 (a + 1)).1 = 0 ∨ (zcl ph.1 (a + 1)).1 = 1)
    · rw [if_pos hc] at hz
      cases hz
      obtain ⟨rfl, h1 | h1⟩ := hc
      · obtain ⟨q, n, e1, e2, e3, e4⟩ := zcl_t (by decide) h1
        cases e1
        have hw := zws_get (b := b) (bs := bs) (cI := cI) (cH := cH) (p := ph) (h := h) e2
        rw [zce_int e4] at hw
        exact va_alen hx hb hK hP _ 0 hw rfl (by rw [e3]) hd (zW0 (kk H locs Ls S))
      · obtain ⟨q, n, e1, e2, e3, e4⟩ := zcl_t (by decide) h1
        cases e1
        have hw := zws_get (b := b) (bs := bs) (cI := cI) (cH := cH) (p := ph) (h := h) e2
        rw [zce_row e4] at hw
        exact va_alen hx hb hK hP _ 1 hw rfl (by rw [e3]) hd (zW0 (kk H locs Ls S))
    · rw [if_neg hc] at hz; cases hz
  · cases hz
/-- a new cell -/
theorem zpush {H1 : Heap} {e1 : va_E} {ph2 : zP} {h2 : zH} (S : zSt s b bs cI cH D (zml k) ph h ls H locs Ls) (hlt : ph.1 < 140) (e : ph2.1 = ph.1 + 1) (h0 : ∀ i, i < ph.1 → zce b bs cI cH ph2 h2 i = zce b bs cI cH ph h i) (hn : zce b bs cI cH ph2 h2 ph.1 = e1) (hat : va_at D zcls (bs + ph.1, e1) H1) (z : H1.size = H.size + 1) (o : ∀ q : Nat, q < H.size → H1[q]? = H[q]?) : zSt s b bs cI cH D (zml k) ph2 h2 ls H1 locs Ls := by
  obtain ⟨hP, hsz, h140, hS, hL⟩ := id S
  refine ⟨?_, by rw [z, hsz, e]; omega, by rw [e]; omega, ⟨by have := hS.1; omega, fun x h1 h2 => (o x (Nat.lt_of_lt_of_le h1 hS.1)).trans (hS.2.1 x h1 h2), hS.2.2⟩, hL⟩
  rw [← zws_push e h0 hn]
  refine (hP.kept (fun i x hx => o x.1 ((hP i x hx).lt))).app (fun i x hx => ?_)
  have hz : i < 1 := (List.getElem?_eq_some_iff.mp hx).1
  rw [show i = 0 by omega] at hx
  cases hx
  exact hat
theorem zfr_ext {ph : zP} (hf : zfrs ph = true) {i : Nat} (hi : i < ph.1) : zce b bs cI cH (ph.1 + 1, ph.2) (zclr h.1 (ph.1 + 1), h.2) i = zce b bs cI cH ph h i := zce_ext (fun j => by show zclr h.1 (ph.1 + 1) (i + 1) j = _; unfold zclr; rw [if_neg (by omega)]) (fun _ => rfl) (Or.inl rfl)
theorem zk_nwa {s' : zS} (F : zFx p s m args meth c b bs cI cH D X k) (S : zSt s b bs cI cH D (zml k) ph h ls H locs Ls) (hd : decode (zb k) pc = .ok (.newarray .int, len)) (hz : zxNwa len (pc, ls, st, ph, h) = some s') (hcl : cells + (s'.2.2.2.1.1 - ph.1) ≤ R.cells) (hsl : slots + (zsl s'.2.2.2.1.1 - zsl ph.1) ≤ R.slots) (kk : zKK p l e R s m args below meth c cells slots Q b bs cI cH D k ph s') : W p l e R s m args below meth c H locs cells slots Q (F0 m pc Ls (st.map (zcv b bs))) := by
  obtain ⟨hx, hb, hml, hown, hts, hnm, hK, hX, hbb, hbs⟩ := F
  obtain ⟨hP, hsz, h140, hS, hL⟩ := id S
  unfold zxNwa at hz
  split at hz
  · rename_i pc1 ls1 n r p1 h1 heq
    cases heq
    by_cases hc : len = 2 ∧ ¬ n < 0 ∧ zSH.getD ph.1 (9, 0) = (0, n.toNatClampNeg) ∧ ph.1 < 140 ∧ zfrs ph = true
    · rw [if_pos hc] at hz
      cases hz
      obtain ⟨rfl, hn, hsh, hlt, hf⟩ := hc
      dsimp only at hcl hsl
      have e1 : ph.1 + 1 - ph.1 = 1 := by omega
      have e2 : zsl (ph.1 + 1) - zsl ph.1 = n.toNatClampNeg := by rw [zsl_succ _ hlt, hsh]; omega
      rw [e1] at hcl
      rw [e2] at hsl
      have hbig := zSH_296 _ hlt
      rw [hsh] at hbig
      have hbig2 : n.toNatClampNeg ≤ 296 := hbig
      refine va_newaK (atype := .int) hx hb (hts _ zarri) rfl hd rfl hn rfl (by show n.toNatClampNeg * 4 ≤ _; omega) hcl hsl hsz fun H1 cA z1 z2 z3 _ z5 => ?_
      have hcA : cA = cI := Option.some.inj (z5.symm.trans (hK.2 0 _ rfl).2)
      subst hcA
      have S2 : zSt s b bs cA cH D (zml k) (ph.1 + 1, ph.2) (zclr h.1 (ph.1 + 1), h.2) ls H1 locs Ls := zpush S hlt rfl (fun i hi => zfr_ext hf hi) (zce_int (p := (ph.1 + 1, ph.2)) hsh) (by
        show H1[bs + ph.1]? = some (vp_cell _ _)
        rw [z1, vp_cell_i]
        congr 2
        funext j
        show defaultValue .int = Value.int (zclr h.1 (ph.1 + 1) (ph.1 + 1) j)
        unfold zclr
        rw [if_pos rfl]
        try rfl) (by rw [z2, hsz]) (fun q hq => z3 q (by rw [← hsz]; exact hq))
      have := kk H1 locs Ls S2
      dsimp only at this
      rw [e1, e2] at this
      exact this
    · rw [if_neg hc] at hz; cases hz
  · cases hz
theorem zk_nwq {ix : Nat} {s' : zS} (F : zFx p s m args meth c b bs cI cH D X k) (S : zSt s b bs cI cH D (zml k) ph h ls H locs Ls) (hd : decode (zb k) pc = .ok (.anewarray ix, len)) (hz : zxNwq k ix len (pc, ls, st, ph, h) = some s') (hcl : cells + (s'.2.2.2.1.1 - ph.1) ≤ R.cells) (hsl : slots + (zsl s'.2.2.2.1.1 - zsl ph.1) ≤ R.slots) (kk : zKK p l e R s m args below meth c cells slots Q b bs cI cH D k ph s') : W p l e R s m args below meth c H locs cells slots Q (F0 m pc Ls (st.map (zcv b bs))) := by
  obtain ⟨hx, hb, hml, hown, hts, hnm, hK, hX, hbb, hbs⟩ := F
  obtain ⟨hP, hsz, h140, hS, hL⟩ := id S
  unfold zxNwq at hz
  split at hz
  · rename_i pc1 ls1 n r p1 h1 heq
    cases heq
    by_cases hc : len = 3 ∧ ¬ n < 0 ∧ zco0 zknT (zo k) ix = some 0 ∧ zSH.getD ph.1 (9, 0) = (1, n.toNatClampNeg) ∧ ph.1 < 140 ∧ zfrs ph = true
    · rw [if_pos hc] at hz
      cases hz
      obtain ⟨rfl, hn, hkn, hsh, hlt, hf⟩ := hc
      dsimp only at hcl hsl
      have e1 : ph.1 + 1 - ph.1 = 1 := by omega
      have e2 : zsl (ph.1 + 1) - zsl ph.1 = n.toNatClampNeg := by rw [zsl_succ _ hlt, hsh]; omega
      rw [e1] at hcl
      rw [e2] at hsl
      have hbig := zSH_296 _ hlt
      rw [hsh] at hbig
      have hbig2 : n.toNatClampNeg ≤ 296 := hbig
      refine W.anew hx hb hown (hts _ (zkn_ok _ (zco_in _ _ _ _ hkn))) (hts _ zarrh) rfl hd rfl hn (by omega) hcl hsl fun cA kA comp f1 f2 f3 f4 => ?_
      obtain ⟨kA2, comp2, y1, y2, y3, y4⟩ := (hK.2 1 _ rfl).2
      have hcA : cA = cH := Option.some.inj (f1.symm.trans y4)
      subst hcA
      have hfr : ∀ j, zlk ph.2 (ph.1 + 1) j = 0 := fun j => zlk_fresh _ _ _ hf
      generalize hH1 : H.push ({ cls := cA, slots := Array.replicate n.toNatClampNeg .null, vm := .none } : Cell) = H1
      have z1 : H1.size = H.size + 1 := by rw [← hH1, Array.size_push]
      have z2 : H1[H.size]? = some (arrV cA n.toNatClampNeg (fun _ => .null)) := by rw [← hH1, Array.getElem?_push_size, ← arrV_new]
      have z3 : ∀ q : Nat, q < H.size → H1[q]? = H[q]? := fun q hq => by rw [← hH1, Array.getElem?_push, if_neg (Nat.ne_of_lt hq)]
      have S2 : zSt s b bs cI cA D (zml k) (ph.1 + 1, ph.2) (zclr h.1 (ph.1 + 1), h.2) ls H1 locs Ls := zpush S hlt rfl (fun i hi => zfr_ext hf hi) (zce_row (p := (ph.1 + 1, ph.2)) hsh) (by
        show H1[bs + ph.1]? = some (vp_cell _ _)
        rw [← hsz, z2, vp_cell_q]
        congr 2
        funext j
        show Value.null = va_rf (zra bs (zlk ph.2 (ph.1 + 1) j))
        rw [hfr]
        rfl) z1 z3
      have := kk H1 locs Ls S2
      dsimp only at this
      rw [e1, e2] at this
      rw [hsz]
      exact this
    · rw [if_neg hc] at hz; cases hz
  · cases hz
theorem zk_new {ix : Nat} {s' : zS} (F : zFx p s m args meth c b bs cI cH D X k) (S : zSt s b bs cI cH D (zml k) ph h ls H locs Ls) (hd : decode (zb k) pc = .ok (.new ix, len)) (hz : zxNew k ix len (pc, ls, st, ph, h) = some s') (hcl : cells + (s'.2.2.2.1.1 - ph.1) ≤ R.cells) (hsl : slots + (zsl s'.2.2.2.1.1 - zsl ph.1) ≤ R.slots) (kk : zKK p l e R s m args below meth c cells slots Q b bs cI cH D k ph s') : W p l e R s m args below meth c H locs cells slots Q (F0 m pc Ls (st.map (zcv b bs))) := by
  obtain ⟨hx, hb, hml, hown, hts, hnm, hK, hX, hbb, hbs⟩ := F
  obtain ⟨hP, hsz, h140, hS, hL⟩ := id S
  unfold zxNew at hz
  dsimp only at hz
  cases hkn : zco0 zknT (zo k) ix with
  | none => rw [hkn] at hz; cases hz
  | some cc =>
    rw [hkn] at hz
    dsimp only at hz
    by_cases hc : len = 3 ∧ zSH.getD ph.1 (9, 0) = (2 + cc, zNf cc) ∧ cc < 5 ∧ ph.1 < 140 ∧ zfrs ph = true ∧ h.2 = 0
    · rw [if_pos hc] at hz
      cases hz
      obtain ⟨rfl, hsh, hc5, hlt, hf, hk0⟩ := hc
      dsimp only at hcl hsl
      have e1 : ph.1 + 1 - ph.1 = 1 := by omega
      have e2 : zsl (ph.1 + 1) - zsl ph.1 = zNf cc := by rw [zsl_succ _ hlt, hsh]; omega
      rw [e1] at hcl
      rw [e2] at hsl
      obtain ⟨g1, g2, g3, g4, g5, g6⟩ := zcP_ok _ hc5
      have hKn := hK.1 _ _ g6
      have hfr : ∀ j, zlk ph.2 (ph.1 + 1) j = 0 := fun j => zlk_fresh _ _ _ hf
      refine W.newcK hx hb hown (hts _ (zkn_ok _ (zco_in _ _ _ _ hkn))) (hts _ g4) (hts _ g5) rfl hd hcl hsl hKn.2.1 hsz fun H1 kC hkC z1 z2 z3 => ?_
      have S2 : zSt s b bs cI cH D (zml k) (ph.1 + 1, ph.2) (zclr h.1 (ph.1 + 1), h.2) ls H1 locs Ls := zpush S hlt rfl (fun i hi => zfr_ext hf hi) (zce_obj (p := (ph.1 + 1, ph.2)) hsh) (by
        refine ⟨_, g6, (u_born (zTy cc) hts g1 hKn hkC z1 g2).to fun j hj => ?_⟩
        unfold vp_V
        rw [List.getD_eq_getElem?_getD, zfs_get hj]
        show defaultValue (zTy cc j) = zfv b bs (ph.1 + 1, ph.2) (zclr h.1 (ph.1 + 1), h.2) (ph.1 + 1) cc j
        have hz0 : zclr h.1 (ph.1 + 1) (ph.1 + 1) j = 0 := by unfold zclr; rw [if_pos rfl]; try rfl
        have h4 := zfk_lt cc hc5 j hj
        have q0 := zkind0 cc hc5 j hj
        have q1 := zkind1 cc hc5 j hj
        have q2 := zkind2 cc hc5 j hj
        have q3 := zkind3 cc hc5 j hj
        have hr : zisr (zTy cc j) = true → defaultValue (zTy cc j) = .null := fun z => by
          cases hty : zTy cc j <;> rw [hty] at z <;> first | rfl | cases z
        unfold zfv
        rcases (show zfk cc j = 0 ∨ zfk cc j = 1 ∨ zfk cc j = 2 ∨ zfk cc j = 3 by omega) with z | z | z | z
        · rw [z, (q0 z).1]
          show _ = Value.int (zclr h.1 (ph.1 + 1) (ph.1 + 1) j)
          rw [hz0]
          rfl
        · rw [z, (q1 z).1]
          show _ = Value.int (zclr h.1 (ph.1 + 1) (ph.1 + 1) j)
          rw [hz0]
          rfl
        · rw [z, hr (q2 z).1]
          show Value.null = zcv b bs (zrv (zlk ph.2 (ph.1 + 1) j))
          rw [hfr]
          rfl
        · rw [z, hr (q3 z).1]
          show Value.null = zcv b bs (zrv h.2)
          rw [hk0]
          rfl) (by rw [z2, hsz]) (fun q hq => z3 q (by rw [← hsz]; exact hq))
      have := kk H1 locs Ls S2
      dsimp only at this
      rw [e1, e2] at this
      exact this
    · rw [if_neg hc] at hz; cases hz
end ztwo
