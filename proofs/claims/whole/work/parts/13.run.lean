theorem zgoodIn {m : zM} (h : zmP m) : GoodIn zTs (zwd m) := by
  intro w hw
  rcases List.mem_cons.mp hw with rfl | hw
  · exact ⟨h.1, Or.inl rfl⟩
  · exact zgood hw
section zrun
variable {p : Program} {l : Launch} {e : Env} {R : Room} {s : State} {m : MethodId} {args : Array Value} {below : List Frame} {meth : Method} {c : Code} {H : Heap} {locs : List Loc} {cells slots : Nat} {Q : State → Prop}
variable {b bs : Nat} {cI cH : ClassId} {D : va_G} {X : zX} {k : zM} {pc pc' len : Nat} {ls ls' : zL} {st st' : List Value} {ph ph' : zP} {h h' : zH} {Ls : Array Slot}
theorem zG_at (F : zFx p s m args meth c b bs cI cH D X k) (S : zSt s b bs cI cH D (zml k) ph h ls H locs Ls) (hNW : zNW s) {U : State} (hU : U.heap = H) (hW : s.WarmedH U.vm) : zG b bs cI cH D X ph h U := by
  obtain ⟨hx, hb, hml, hown, hts, hnm, hK, hX, hbb, hbs⟩ := F
  obtain ⟨hP, hsz, h140, hS, hL⟩ := S
  refine ⟨by rw [hU]; exact hP, by rw [hU]; exact hsz, h140, va_K.moved hW.alike hK, ?_, hbb, hNW.warm hW⟩
  rw [hU]
  exact va_X.moved hW.alike (hX.kept (hS.2.1 b (Nat.lt_of_lt_of_le hbb hbs) (Nat.not_le.mpr hbb)))
set_option maxHeartbeats 1000000 in
theorem zinv_ok {i : Instr} {mm : zM} {as rest : List Value} {t : Bool} {x : zR} (F : zFx p s m args meth c b bs cI cH D X k) (S : zSt s b bs cI cH D (zml k) ph h ls H locs Ls) (hNW : zNW s) (hd : decode (zb k) pc = .ok (i, len)) (hi : zinv k i len (pc, ls, st, ph, h) = some (mm, as, rest, t)) (hM : zmP mm → zMet b bs cI cH D X l mm as ph h x) (hfr : zrk mm as + 2 ≤ R.frames) (hlo : 40 * zrk mm as + 80 ≤ R.locals) (hcl : cells + (x.2.1.1 - ph.1) ≤ R.cells) (hsl : slots + (zsl x.2.1.1 - zsl ph.1) ≤ R.slots)
    (kk : ∀ (H1 : Heap) (locs1 : List Loc), va_P D zcls (zws b bs cI cH x.2.1 x.2.2) H1 → H1.size = bs + x.2.1.1 → x.2.1.1 ≤ 140 → va_S (fun q => bs ≤ q) s.heap H1 locs1 → W p l e R s m args below meth c H1 locs1 (cells + (x.2.1.1 - ph.1)) (slots + (zsl x.2.1.1 - zsl ph.1)) Q (F0 m (pc + 3) Ls ((x.1.map (zcv b bs)).toList ++ rest.map (zcv b bs)))) : W p l e R s m args below meth c H locs cells slots Q (F0 m pc Ls (st.map (zcv b bs))) := by
  have hG : ∀ {U : State}, U.heap = H → s.WarmedH U.vm → zG b bs cI cH D X ph h U := fun hU hW => zG_at F S hNW hU hW
  obtain ⟨hx, hb, hml, hown, hts, hnm, hK, hX, hbb, hbs⟩ := id F
  obtain ⟨hP, hsz, h140, hS, hL⟩ := id S
  have wd : ∀ {w : Jvm.Cond}, w ∈ zTs → w.before args s = true := fun hw => hts _ hw
  have hroom : ∀ (np : Nat), 2 * (F0 m pc Ls (st.map (zcv b bs))).monitorRoom + ((rest.map (zcv b bs)).map fun v => v.category).sum = zcat rest := fun np => by
    rw [zcat_map]
    show 2 * 0 + zcat rest = zcat rest
    omega
  have cb : ∀ (hp : zmP mm), (zrm (zrk mm as) (x.2.1.1 - ph.1) (zsl x.2.1.1 - zsl ph.1)).frames + 1 ≤ R.frames ∧ 8 + (zml mm + 11) + (zrm (zrk mm as) (x.2.1.1 - ph.1) (zsl x.2.1.1 - zsl ph.1)).locals ≤ R.locals ∧ (∀ w ∈ zwd mm, ∀ (a' : Array Value) (U : State), s.WarmedH U.vm → w.before a' U = true) := fun hp => ⟨by show zrk mm as + 1 + 1 ≤ _; omega, by have := hp.2.2.2.2.2; show 8 + (zml mm + 11) + (40 * zrk mm as + 40) ≤ _; omega, pay_in hts (zgoodIn hp)⟩
  have hlen : ∀ (hp : zmP mm) (sig), parseMethodDescriptor (zn mm).desc = some sig → znp mm = sig.parameters.length := fun hp sig hsig => by
    have h2 := hp.2.1.2.2
    rw [hsig] at h2
    exact (Option.some.inj h2).symm
  unfold zinv at hi
  dsimp only at hi
  by_cases hl3 : len = 3
  · rw [if_pos hl3] at hi
    subst hl3
    cases i with
    | invokevirtual ix =>
      dsimp only at hi
      cases hz : zco0 zmtT (zo k) ix with
      | none => rw [hz] at hi; cases hi
      | some z =>
        obtain ⟨kd, m2⟩ := z
        rw [hz] at hi
        dsimp only at hi
        by_cases hc : kd ≤ 1 ∧ znp m2 ≤ st.length
        · rw [if_pos hc] at hi
          split at hi
          · rename_i a r hdr
            by_cases hc2 : zcl ph.1 a = (2 + zo m2, zNf (zo m2)) ∧ zcat r ≤ 8
            · rw [if_pos hc2] at hi
              cases hi
              obtain ⟨hmP, hmK⟩ := zmt_ok _ (zco_in _ _ _ _ hz)
              dsimp only at hmP hmK
              have hz5 : zo mm < 5 := by
                rcases (show kd = 0 ∨ kd = 1 by omega) with z | z
                · subst z; exact hmK.2.2.2
                · subst z; exact hmK.2.2.2
              obtain ⟨q, rfl, hq, hsh⟩ := zcl_pos (cn := ph.1) (a := a) (by rw [hc2.1]; intro z; have : 2 + zo mm = 9 := z; omega)
              rw [hc2.1] at hsh
              obtain ⟨g1, g2, g3, g4, g5, g6⟩ := zcP_ok _ hz5
              have hw := zws_get (b := b) (bs := bs) (cI := cI) (cH := cH) (p := ph) (h := h) hq
              rw [zce_obj hsh] at hw
              have hstk : st.map (zcv b bs) = ((st.take (znp mm)).reverse.map (zcv b bs)).reverse ++ (.ref (bs + q) :: rest.map (zcv b bs)) := by
                rw [List.map_reverse, List.reverse_reverse]
                have : st = st.take (znp mm) ++ (.ref (q + 1) :: rest) := by rw [← hdr, List.take_append_drop]
                conv => lhs; rw [this]
                rw [List.map_append]
                rfl
              have hnl : ((st.take (znp mm)).reverse.map (zcv b bs)).length = znp mm := by
                rw [List.length_map, List.length_reverse, List.length_take]
                omega
              obtain ⟨cb1, cb2, cb3⟩ := cb hmP
              have hpre : PreV s H (zcn (zo mm)) (bs + q) (va_Pc ((Value.ref (q + 1) :: (st.take (znp mm)).reverse).map (zcv b bs)) (zG b bs cI cH D X ph h)) ((st.take (znp mm)).reverse.map (zcv b bs)) := ⟨zG.blind, va_recv hK hP g6 hw, fun U hU hW => ⟨rfl, hG hU hW⟩⟩
              have hfix : CallFix p m c (zb k) (zml k) s args zTs (zcn (zo k)) := ⟨hx, hb, hml, hown, hts⟩
              rcases (show kd = 0 ∨ kd = 1 by omega) with z | z
              · subst z
                exact zrun_go (va_runV (C := zcn (zo mm)) (bytes := zb mm) (maxL := zml mm) (ret := zrt mm) (n := znp mm) (rest := rest.map (zcv b bs)) hfix (hM hmP) ⟨⟨rfl, rfl, cb1, cb2, cb3, List.mem_cons_self, wd hmP.1, wd hmP.2.2.2.2.1, ⟨hmP.2.1.1, hmP.2.1.2.1⟩, hlen hmP, wd hmK.1⟩, wd hmK.2.1, wd hmK.2.2.1⟩ hpre rfl hnl hL.1 hstk (by rw [hroom 0]; exact hc2.2) hd ⟨hcl, hsl⟩) hS kk
              · subst z
                exact zrun_go (va_runVN (C := zcn (zo mm)) (host := "SeenFromBehind") (bytes := zb mm) (maxL := zml mm) (ret := zrt mm) (n := znp mm) (rest := rest.map (zcv b bs)) hfix (hM hmP) ⟨⟨⟨rfl, rfl, cb1, cb2, cb3, List.mem_cons_self⟩, wd hmP.1, wd hmP.2.2.2.2.1, ⟨hmP.2.1.1, hmP.2.1.2.1⟩, hlen hmP, wd hmK.1⟩, wd hmK.2.1, wd hmK.2.2.1⟩ hpre rfl hnl hL.1 hstk (by rw [hroom 0]; exact hc2.2) hd ⟨hcl, hsl⟩) hS kk
            · rw [if_neg hc2] at hi; cases hi
          · cases hi
        · rw [if_neg hc] at hi; cases hi
    | invokespecial ix =>
      dsimp only at hi
      cases hz : zco0 zmtT (zo k) ix with
      | none => rw [hz] at hi; cases hi
      | some z =>
        obtain ⟨kd, m2⟩ := z
        rw [hz] at hi
        dsimp only at hi
        by_cases hc : (kd = 4 ∨ kd = 5) ∧ znp m2 ≤ st.length
        · rw [if_pos hc] at hi
          split at hi
          · rename_i a r hdr
            by_cases hc2 : zcat r ≤ 8
            · rw [if_pos hc2] at hi
              cases hi
              obtain ⟨hmP, hmK⟩ := zmt_ok _ (zco_in _ _ _ _ hz)
              dsimp only at hmP hmK
              have hstk : st.map (zcv b bs) = ((st.take (znp mm)).reverse.map (zcv b bs)).reverse ++ (.ref (zad b bs a) :: rest.map (zcv b bs)) := by
                rw [List.map_reverse, List.reverse_reverse]
                have : st = st.take (znp mm) ++ (.ref a :: rest) := by rw [← hdr, List.take_append_drop]
                conv => lhs; rw [this]
                rw [List.map_append]
                rfl
              have hnl : ((st.take (znp mm)).reverse.map (zcv b bs)).length = znp mm := by
                rw [List.length_map, List.length_reverse, List.length_take]
                omega
              obtain ⟨cb1, cb2, cb3⟩ := cb hmP
              have hpre : PreS s H (va_Pc ((Value.ref a :: (st.take (znp mm)).reverse).map (zcv b bs)) (zG b bs cI cH D X ph h)) (Value.ref (zad b bs a) :: (st.take (znp mm)).reverse.map (zcv b bs)) := ⟨zG.blind, fun U hU hW => ⟨rfl, hG hU hW⟩⟩
              have hfix : CallFix p m c (zb k) (zml k) s args zTs (zcn (zo k)) := ⟨hx, hb, hml, hown, hts⟩
              rcases hc.1 with z | z
              · subst z
                have hcd := hmP.1
                have hcd2 : Jvm.Cond.code (zn mm) (zb mm) (zml mm) (zrt mm) ∈ zwd mm := List.mem_cons_self
                rw [hmK.2.2.2] at hcd hcd2
                exact zrun_go (va_runI (bytes := zb mm) (maxL := zml mm) (n := znp mm) (rest := rest.map (zcv b bs)) hfix (hM hmP) ⟨⟨rfl, rfl, cb1, cb2, cb3, hcd2, wd hcd, wd hmP.2.2.2.2.1, ⟨hmP.2.1.1, hmP.2.1.2.1⟩, hlen hmP, wd hmK.1⟩, hmK.2.2.1, wd hmK.2.1⟩ hpre rfl hnl hL.1 hstk (by rw [hroom 0]; exact hc2) hd ⟨hcl, hsl⟩) hS kk
              · subst z
                have hcd := hmP.1
                have hcd2 : Jvm.Cond.code (zn mm) (zb mm) (zml mm) (zrt mm) ∈ zwd mm := List.mem_cons_self
                rw [hmK.2.2.2] at hcd hcd2
                exact zrun_go (va_runIN (host := "SeenFromBehind") (bytes := zb mm) (maxL := zml mm) (n := znp mm) (rest := rest.map (zcv b bs)) hfix (hM hmP) ⟨⟨⟨rfl, rfl, cb1, cb2, cb3, hcd2⟩, wd hcd, wd hmP.2.2.2.2.1, ⟨hmP.2.1.1, hmP.2.1.2.1⟩, hlen hmP, wd hmK.1⟩, hmK.2.2.1, wd hmK.2.1⟩ hpre rfl hnl hL.1 hstk (by rw [hroom 0]; exact hc2) hd ⟨hcl, hsl⟩) hS kk
            · rw [if_neg hc2] at hi; cases hi
          · cases hi
        · rw [if_neg hc] at hi; cases hi
    | invokestatic ix =>
      dsimp only at hi
      cases hz : zco0 zmtT (zo k) ix with
      | none => rw [hz] at hi; cases hi
      | some z =>
        obtain ⟨kd, m2⟩ := z
        rw [hz] at hi
        dsimp only at hi
        by_cases hc : (kd = 2 ∨ kd = 3) ∧ znp m2 ≤ st.length ∧ zcat (st.drop (znp m2)) ≤ 8
        · rw [if_pos hc] at hi
          cases hi
          obtain ⟨hmP, hmK⟩ := zmt_ok _ (zco_in _ _ _ _ hz)
          dsimp only at hmP hmK
          have hstk : st.map (zcv b bs) = ((st.take (znp mm)).reverse.map (zcv b bs)).reverse ++ (st.drop (znp mm)).map (zcv b bs) := by
            rw [List.map_reverse, List.reverse_reverse, ← List.map_append, List.take_append_drop]
          have hnl : ((st.take (znp mm)).reverse.map (zcv b bs)).length = znp mm := by
            rw [List.length_map, List.length_reverse, List.length_take]
            omega
          obtain ⟨cb1, cb2, cb3⟩ := cb hmP
          have hpre : PreS s H (va_Pc ((st.take (znp mm)).reverse.map (zcv b bs)) (zG b bs cI cH D X ph h)) ((st.take (znp mm)).reverse.map (zcv b bs)) := ⟨zG.blind, fun U hU hW => ⟨rfl, hG hU hW⟩⟩
          have hfix : CallFix p m c (zb k) (zml k) s args zTs (zcn (zo k)) := ⟨hx, hb, hml, hown, hts⟩
          rcases hc.1 with z | z
          · subst z
            exact zrun_go (va_runS (bytes := zb mm) (maxL := zml mm) (ret := zrt mm) (n := znp mm) (rest := (st.drop (znp mm)).map (zcv b bs)) hfix (hM hmP) ⟨⟨rfl, rfl, cb1, cb2, cb3, List.mem_cons_self, wd hmP.1, wd hmP.2.2.2.2.1, ⟨hmP.2.1.1, hmP.2.1.2.1⟩, hlen hmP, wd hmK.1⟩, wd hmK.2⟩ hpre rfl hnl hL.1 hstk (by rw [hroom 0]; exact hc.2.2) hd ⟨hcl, hsl⟩) hS kk
          · subst z
            exact zrun_go (va_runSN (host := "SeenFromBehind") (bytes := zb mm) (maxL := zml mm) (ret := zrt mm) (n := znp mm) (rest := (st.drop (znp mm)).map (zcv b bs)) hfix (hM hmP) ⟨⟨⟨rfl, rfl, cb1, cb2, cb3, List.mem_cons_self⟩, wd hmP.1, wd hmP.2.2.2.2.1, ⟨hmP.2.1.1, hmP.2.1.2.1⟩, hlen hmP, wd hmK.1⟩, wd hmK.2, trivial⟩ hpre rfl hnl hL.1 hstk (by rw [hroom 0]; exact hc.2.2) hd ⟨hcl, hsl⟩) hS kk
        · rw [if_neg hc] at hi; cases hi
    | _ => cases hi
  · rw [if_neg hl3] at hi; cases hi
/-- a run of the evaluator is a run of the machine -/
theorem zex_ok {r : Nat} {C : zM → List Value → zP → zH → Option zR} {x : zR} {CF SF : Nat} (hC : ∀ m as p h x, zrk m as < r → zmP m → C m as p h = some x → zMet b bs cI cH D X l m as p h x) (F : zFx p s m args meth c b bs cI cH D X k) (hNW : zNW s) (hfr : r + 1 ≤ R.frames) (hlo : 40 * r + 40 ≤ R.locals) (hCF : CF ≤ R.cells) (hSF : SF ≤ R.slots)
    (hret : ∀ pc ls st H locs Ls i len, decode (zb k) pc = .ok (i, len) → zrtn k i len (pc, ls, st, x.2.1, x.2.2) = some x → zSt s b bs cI cH D (zml k) x.2.1 x.2.2 ls H locs Ls → W p l e R s m args below meth c H locs CF SF Q (F0 m pc Ls (st.map (zcv b bs)))) :
    ∀ (n : Nat) (s' : zS), zex X r k C n s' = some x → ∀ H locs Ls cells slots, zSt s b bs cI cH D (zml k) s'.2.2.2.1 s'.2.2.2.2 s'.2.1 H locs Ls → cells + (x.2.1.1 - s'.2.2.2.1.1) = CF → slots + (zsl x.2.1.1 - zsl s'.2.2.2.1.1) = SF → W p l e R s m args below meth c H locs cells slots Q (F0 m s'.1 Ls (s'.2.2.1.map (zcv b bs))) := by
  intro n
  induction n with
  | zero => intro s' hz; cases hz
  | succ n ih =>
    intro s' hz H locs Ls cells slots S hc hs
    have hg := zex_grow _ _ hz
    unfold zex at hz
    cases hst : zst X r k C s' with
    | none => rw [hst] at hz; cases hz
    | some y =>
      rw [hst] at hz
      cases y with
      | inr z =>
        cases hz
        obtain ⟨i, len, h1, h2⟩ := zst_inr hst
        have he := zrtn_eq h2
        obtain ⟨pc, ls, st, ph, hh⟩ := s'
        have e1 : x.2.1 = ph := congrArg (fun q => q.1) he
        have e2 : x.2.2 = hh := congrArg (fun q => q.2) he
        subst e1; subst e2
        dsimp only at hc hs
        rw [Nat.sub_self, Nat.add_zero] at hc hs
        subst hc; subst hs
        exact hret _ _ _ _ _ _ _ _ h1 h2 S
      | inl s2 =>
        dsimp only at hz
        have hg2 := zex_grow _ _ hz
        have hg1 := zst_grow hst
        have hm1 := zsl_mono hg1
        have hm2 := zsl_mono hg2
        obtain ⟨i, len, h1, h2⟩ := zst_inl hst
        obtain ⟨pc, ls, st, ph, hh⟩ := s'
        dsimp only at hc hs hg1 hm1 S
        rcases h2 with h2 | ⟨m2, as, rest, t, v, p', h', h2, h3, h4, h5, h6⟩
        · refine zsim_ok F S h1 h2 (by omega) (by omega) (by omega) (by omega) fun H' locs' Ls' S' => ?_
          exact ih s2 hz H' locs' Ls' _ _ S' (by show cells + (s2.2.2.2.1.1 - ph.1) + _ = CF; omega) (by show slots + (zsl s2.2.2.2.1.1 - zsl ph.1) + _ = SF; omega)
        · subst h6
          dsimp only at hg2 hm2 hg1 hm1 h4
          refine zinv_ok (x := (v, p', h')) F S hNW h1 h2 (fun hp => hC _ _ _ _ _ h3 hp h4) (by omega) (by omega) (by dsimp only; omega) (by dsimp only; omega) fun H1 locs1 w1 w2 w3 w4 => ?_
          have := ih _ hz H1 locs1 Ls (cells + (p'.1 - ph.1)) (slots + (zsl p'.1 - zsl ph.1)) ⟨w1, w2, w3, w4, S.2.2.2.2⟩ (by dsimp only; omega) (by dsimp only; omega)
          dsimp only at this
          rw [List.map_append] at this
          cases v <;> exact this
end zrun
