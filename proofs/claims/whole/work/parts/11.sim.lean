theorem zcat_map (b bs : Nat) (r : List Value) : ((r.map (zcv b bs)).map fun v => v.category).sum = zcat r := by
  unfold zcat
  rw [List.map_map]
  congr 2
  funext v
  exact zcv_cat b bs v
theorem zty_cv (b bs : Nat) (v : Value) : zty (zcv b bs v) = zty v := by cases v <;> rfl
theorem zcst_cv {o n : Nat} {i : Instr} {v : Value} (b bs : Nat) (h : zcst o i = some (v, n)) : zcv b bs v = v := by
  cases i with
  | iconst q => cases h; rfl
  | bipush q => cases h; rfl
  | sipush q => cases h; rfl
  | lconst q => cases h; rfl
  | ldc_w ix =>
    unfold zcst at h
    dsimp only at h
    cases hz : zco0 zcoT o ix with
    | none => rw [hz] at h; cases h
    | some x => rw [hz] at h; cases h; rfl
  | ldc2_w ix =>
    unfold zcst at h
    dsimp only at h
    cases hz : zco0 zclT o ix with
    | none => rw [hz] at h; cases h
    | some x => rw [hz] at h; cases h; rfl
  | _ => cases h
section zsimo
variable {p : Program} {l : Launch} {e : Env} {R : Room} {s : State} {m : MethodId} {args : Array Value} {below : List Frame} {meth : Method} {c : Code} {H : Heap} {locs : List Loc} {cells slots : Nat} {Q : State → Prop}
variable {b bs : Nat} {cI cH : ClassId} {D : va_G} {X : zX} {k : zM} {pc pc' len : Nat} {ls ls' : zL} {st st' : List Value} {ph ph' : zP} {h h' : zH} {Ls : Array Slot}
set_option maxHeartbeats 4000000 in
theorem zsim_ok {i : Instr} {s' : zS} (F : zFx p s m args meth c b bs cI cH D X k) (S : zSt s b bs cI cH D (zml k) ph h ls H locs Ls) (hd : decode (zb k) pc = .ok (i, len)) (hz : zsim X k i len (pc, ls, st, ph, h) = some s') (hcl : cells + (s'.2.2.2.1.1 - ph.1) ≤ R.cells) (hsl : slots + (zsl s'.2.2.2.1.1 - zsl ph.1) ≤ R.slots) (hfr : 1 ≤ R.frames) (hlo : 30 ≤ R.locals) (kk : zKK p l e R s m args below meth c cells slots Q b bs cI cH D k ph s') : W p l e R s m args below meth c H locs cells slots Q (F0 m pc Ls (st.map (zcv b bs))) := by
  obtain ⟨hx, hb, hml, hown, hts, hnm, hK, hX, hbb, hbs⟩ := id F
  obtain ⟨hP, hsz, h140, hS, hL⟩ := id S
  unfold zsim at hz
  cases hc : zcst (zo k) i with
  | some vn =>
    obtain ⟨v, n⟩ := vn
    rw [hc] at hz
    dsimp only [zxCst] at hz
    by_cases hn : len = n
    · rw [if_pos hn] at hz
      cases hz
      subst hn
      have k1 := zW0 (kk H locs Ls S)
      dsimp only [List.map] at k1
      rw [zcst_cv b bs hc] at k1
      exact zsd_cst hx hb hown hts hc hd k1
    · rw [if_neg hn] at hz; cases hz
  | none =>
  rw [hc] at hz
  dsimp only at hz
  cases hc2 : zldx i with
  | some jj =>
    obtain ⟨j, ty, n⟩ := jj
    rw [hc2] at hz
    dsimp only [zxLd] at hz
    split at hz
    · rename_i v hv
      by_cases hn : len = n ∧ zty v = ty
      · rw [if_pos hn] at hz
        cases hz
        obtain ⟨rfl, hty⟩ := hn
        exact zsd_ld hx hb hc2 hd (hL.2.2.2 _ _ hv) (by rw [zty_cv]; exact hty) (zW0 (kk H locs Ls S))
      · rw [if_neg hn] at hz; cases hz
    · cases hz
  | none =>
  rw [hc2] at hz
  dsimp only at hz
  cases hc3 : zstx i with
  | some jj =>
    obtain ⟨j, ty, n⟩ := jj
    rw [hc3] at hz
    dsimp only at hz
    unfold zxSt at hz
    split at hz
    · rename_i pc1 ls1 v r p1 h1 heq
      cases heq
      by_cases hn : len = n ∧ zty v = ty
      · rw [if_pos hn] at hz
        obtain ⟨rfl, hty⟩ := hn
        by_cases h2 : ty = 2
        · rw [if_pos h2] at hz
          by_cases hj : j + 1 < ls.length
          · rw [if_pos hj] at hz
            cases hz
            refine zsd_st2 hx hb hc3 hd h2 hL.has (by rw [← hL.2.1]; exact hj) (by rw [zty_cv]; exact hty) fun Ls' z => ?_
            exact zW0 (kk H locs Ls' ⟨hP, hsz, h140, hS, hL.put2 z hj⟩)
          · rw [if_neg hj] at hz; cases hz
        · rw [if_neg h2] at hz
          by_cases hj : j < ls.length
          · rw [if_pos hj] at hz
            cases hz
            refine zsd_st1 hx hb hc3 hd h2 hL.has (by rw [← hL.2.1]; exact hj) (by rw [zty_cv]; exact hty) fun Ls' z => ?_
            exact zW0 (kk H locs Ls' ⟨hP, hsz, h140, hS, hL.put1 z hj⟩)
          · rw [if_neg hj] at hz; cases hz
      · rw [if_neg hn] at hz; cases hz
    · cases hz
  | none =>
  rw [hc3] at hz
  dsimp only at hz
  have def_ : zxAr i len (pc, ls, st, ph, h) = some s' → W p l e R s m args below meth c H locs cells slots Q (F0 m pc Ls (st.map (zcv b bs))) := fun hz => by
    unfold zxAr at hz
    split at hz
    · rename_i pc1 ls1 y x r p1 h1 heq
      cases heq
      cases ha : zar i x y with
      | none => rw [ha] at hz; cases hz
      | some v =>
        rw [ha] at hz
        dsimp only at hz
        by_cases hn : len = 1
        · rw [if_pos hn] at hz
          cases hz
          subst hn
          exact zsd_ar hx hb ha hd (zW0 (kk H locs Ls S))
        · rw [if_neg hn] at hz; cases hz
    · rename_i pc1 ls1 y x r p1 h1 heq
      cases heq
      cases ha : zal i x y with
      | none => rw [ha] at hz; cases hz
      | some v =>
        rw [ha] at hz
        dsimp only at hz
        by_cases hn : len = 1
        · rw [if_pos hn] at hz
          cases hz
          subst hn
          exact zsd_al hx hb ha hd (zW0 (kk H locs Ls S))
        · rw [if_neg hn] at hz; cases hz
    · cases hz
  cases i with
  | getfield ix => exact zk_get F S hd hz kk
  | putfield ix => exact zk_put F S hd hz kk
  | iaload => exact zk_ald F S hd hz kk
  | iastore => exact zk_ast F S hd hz kk
  | aaload => exact zk_qld F S hd hz kk
  | aastore => exact zk_qst F S hd hz kk
  | arraylength => exact zk_len F S hd hz kk
  | new ix => exact zk_new F S hd hz hcl hsl kk
  | newarray t => cases t with
    | int => exact zk_nwa F S hd hz hcl hsl kk
    | _ => exact def_ hz
  | anewarray ix => exact zk_nwq F S hd hz hcl hsl kk
  | dup =>
    dsimp only at hz
    unfold zxDup at hz
    split at hz
    · rename_i pc1 ls1 v r p1 h1 heq
      cases heq
      by_cases hn : len = 1 ∧ v.category = 1
      · rw [if_pos hn] at hz
        cases hz
        obtain ⟨rfl, hv⟩ := hn
        exact lv_dup hx hb hd (by rw [zcv_cat]; exact hv) (zW0 (kk H locs Ls S))
      · rw [if_neg hn] at hz; cases hz
    · cases hz
  | dup2 =>
    dsimp only at hz
    unfold zxDup2 at hz
    split at hz
    · rename_i pc1 ls1 v u r p1 h1 heq
      cases heq
      by_cases hn : len = 1 ∧ v.category = 1 ∧ u.category = 1
      · rw [if_pos hn] at hz
        cases hz
        obtain ⟨rfl, hv, hu⟩ := hn
        exact lv_dup2_11 hx hb hd (by rw [zcv_cat]; exact hv) (by rw [zcv_cat]; exact hu) (zW0 (kk H locs Ls S))
      · rw [if_neg hn] at hz; cases hz
    · cases hz
  | pop =>
    dsimp only at hz
    unfold zxPop at hz
    split at hz
    · rename_i pc1 ls1 v r p1 h1 heq
      cases heq
      by_cases hn : len = 1 ∧ v.category = 1
      · rw [if_pos hn] at hz
        cases hz
        obtain ⟨rfl, hv⟩ := hn
        exact lv_pop hx hb hd (by rw [zcv_cat]; exact hv) (zW0 (kk H locs Ls S))
      · rw [if_neg hn] at hz; cases hz
    · cases hz
  | aconst_null =>
    dsimp only at hz
    by_cases hn : len = 1
    · rw [if_pos hn] at hz
      cases hz
      subst hn
      exact lv_null hx hb hd (zW0 (kk H locs Ls S))
    · rw [if_neg hn] at hz; cases hz
  | ineg =>
    dsimp only at hz
    unfold zxNeg at hz
    split at hz
    · rename_i pc1 ls1 x r p1 h1 heq
      cases heq
      by_cases hn : len = 1
      · rw [if_pos hn] at hz
        cases hz
        subst hn
        exact lv_ineg hx hb hd (zW0 (kk H locs Ls S))
      · rw [if_neg hn] at hz; cases hz
    · cases hz
  | i2l =>
    dsimp only at hz
    unfold zxI2l at hz
    split at hz
    · rename_i pc1 ls1 x r p1 h1 heq
      cases heq
      by_cases hn : len = 1
      · rw [if_pos hn] at hz
        cases hz
        subst hn
        exact lv_i2l hx hb hd rfl (zW0 (kk H locs Ls S))
      · rw [if_neg hn] at hz; cases hz
    · cases hz
  | lcmp =>
    dsimp only at hz
    unfold zxLcmp at hz
    split at hz
    · rename_i pc1 ls1 y x r p1 h1 heq
      cases heq
      by_cases hn : len = 1
      · rw [if_pos hn] at hz
        cases hz
        subst hn
        exact W.lcmp hx hb hd (zW0 (kk H locs Ls S))
      · rw [if_neg hn] at hz; cases hz
    · cases hz
  | iinc j n =>
    dsimp only [zxInc] at hz
    split at hz
    · rename_i x hv
      by_cases hn : len = 3
      · rw [if_pos hn] at hz
        cases hz
        subst hn
        obtain ⟨q, hq⟩ := List.getElem?_of_mem (zlv_mem (b := b) (bs := bs) hv)
        have hj : j < ls.length := (List.getElem?_eq_some_iff.mp hv).1
        refine lv_iinc hx hb hd hL.has (k := q) hq rfl (by rw [← hL.2.1]; exact hj) rfl fun Ls' z => ?_
        exact zW0 (kk H locs Ls' ⟨hP, hsz, h140, hS, hL.put1 z hj⟩)
      · rw [if_neg hn] at hz; cases hz
    · cases hz
  | goto o =>
    dsimp only at hz
    by_cases hn : len = 3
    · rw [if_pos hn] at hz
      obtain ⟨t, h1, rfl⟩ := zgo_inv hz
      subst hn
      exact lv_goto hx hb hd (ztg_eq h1) (zW0 (kk H locs Ls S))
    · rw [if_neg hn] at hz; cases hz
  | ifnull o =>
    dsimp only at hz
    unfold zxNull at hz
    split at hz
    · rename_i pc1 ls1 x r p1 h1 heq
      cases heq
      by_cases hn : len = 3
      · rw [if_pos hn] at hz
        cases hz
        subst hn
        exact lv_ifnull hx hb hd (zW0 (kk H locs Ls S))
      · rw [if_neg hn] at hz; cases hz
    · rename_i pc1 ls1 r p1 h1 heq
      cases heq
      by_cases hn : len = 3
      · rw [if_pos hn] at hz
        obtain ⟨t, h1, rfl⟩ := zgo_inv hz
        subst hn
        exact lv_ifnullN hx hb hd (ztg_eq h1) (zW0 (kk H locs Ls S))
      · rw [if_neg hn] at hz; cases hz
    · cases hz
  | ifnonnull o =>
    dsimp only at hz
    unfold zxNnull at hz
    split at hz
    · rename_i pc1 ls1 x r p1 h1 heq
      cases heq
      by_cases hn : len = 3
      · rw [if_pos hn] at hz
        obtain ⟨t, h1, rfl⟩ := zgo_inv hz
        subst hn
        exact lv_ifnonnull hx hb hd (ztg_eq h1) (zW0 (kk H locs Ls S))
      · rw [if_neg hn] at hz; cases hz
    · rename_i pc1 ls1 r p1 h1 heq
      cases heq
      by_cases hn : len = 3
      · rw [if_pos hn] at hz
        cases hz
        subst hn
        exact lv_ifnonnullN hx hb hd (zW0 (kk H locs Ls S))
      · rw [if_neg hn] at hz; cases hz
    · cases hz
  | ifCond cd o =>
    dsimp only at hz
    unfold zxIf at hz
    split at hz
    · rename_i pc1 ls1 x r p1 h1 heq
      cases heq
      by_cases hn : len = 3
      · rw [if_pos hn] at hz
        cases ht : ztg pc o with
        | none => rw [ht] at hz; cases hz
        | some t =>
          rw [ht] at hz
          cases hz
          subst hn
          exact zsd_if hx hb hd (ztg_eq ht) (zW0 (kk H locs Ls S))
      · rw [if_neg hn] at hz; cases hz
    · cases hz
  | if_icmp cd o =>
    dsimp only at hz
    unfold zxIc at hz
    split at hz
    · rename_i pc1 ls1 y x r p1 h1 heq
      cases heq
      by_cases hn : len = 3
      · rw [if_pos hn] at hz
        cases ht : ztg pc o with
        | none => rw [ht] at hz; cases hz
        | some t =>
          rw [ht] at hz
          cases hz
          subst hn
          exact zsd_ic hx hb hd (ztg_eq ht) (zW0 (kk H locs Ls S))
      · rw [if_neg hn] at hz; cases hz
    · cases hz
  | tableswitch d lo hi offs =>
    dsimp only at hz
    unfold zxTsw at hz
    split at hz
    · rename_i pc1 ls1 x r p1 h1 heq
      cases heq
      obtain ⟨t, h1, rfl⟩ := zgo_inv hz
      unfold zsw at h1
      by_cases hr : x.toInt < lo ∨ hi < x.toInt
      · rw [if_pos hr] at h1
        exact lv_tableOut hx hb hd hr (ztg_eq h1) (zW0 (kk H locs Ls S))
      · rw [if_neg hr] at h1
        cases ho : offs[(x.toInt - lo).toNat]? with
        | none => rw [ho] at h1; cases h1
        | some o =>
          rw [ho] at h1
          exact lv_tableIn hx hb hd (fun z => hr (Or.inl z)) (fun z => hr (Or.inr z)) ho (ztg_eq h1) (zW0 (kk H locs Ls S))
    · cases hz
  | lookupswitch d ps =>
    dsimp only at hz
    unfold zxLsw at hz
    split at hz
    · rename_i pc1 ls1 x r p1 h1 heq
      cases heq
      obtain ⟨t, h1, rfl⟩ := zgo_inv hz
      unfold zlw at h1
      by_cases hr : (ps.toList.zip (ps.toList.drop 1)).all (fun (a, next) => a.1 < next.1) = true
      · rw [if_pos hr] at h1
        exact lv_lookup hx hb hd hr rfl (ztg_eq h1) (zW0 (kk H locs Ls S))
      · rw [if_neg hr] at h1; cases h1
    · cases hz
  | invokespecial ix =>
    dsimp only at hz
    unfold zxObj at hz
    split at hz
    · rename_i pc1 ls1 x r p1 h1 heq
      cases heq
      by_cases hn : len = 3 ∧ zco0 zbiT (zo k) ix = some 1 ∧ zcat r = 0 ∧ ls.length = zml k
      · rw [if_pos hn] at hz
        cases hz
        obtain ⟨rfl, hi, hcat, hll⟩ := hn
        have hw : Jvm.Cond.methodLink (zcn (zo k)) ix Lib.objectInit ∈ zTs := zbi_ok _ (zco_in _ _ _ _ hi)
        refine W.objInit hx hb hown (hts _ hw) (hts _ zobj1) (hts _ zobj2) rfl (by rw [hml]; exact hL.1) rfl hd hfr ?_ (zW0 (kk H locs Ls S))
        show 2 * 0 + ((r.map (zcv b bs)).map fun v => v.category).sum + 12 ≤ _
        rw [zcat_map, hcat]
        omega
      · rw [if_neg hn] at hz; cases hz
    · cases hz
  | invokestatic ix =>
    dsimp only at hz
    unfold zxMath at hz
    split at hz
    · rename_i pc1 ls1 y r p1 h1 heq
      cases heq
      split at hz
      · rename_i hi
        split at hz
        · rename_i x r'
          by_cases hn : len = 3 ∧ zcat r' ≤ 8
          · rw [if_pos hn] at hz
            cases hz
            obtain ⟨rfl, hcat⟩ := hn
            have hw : Jvm.Cond.methodLink (zcn (zo k)) ix Lib.Math.min.name ∈ zTs := zbi_ok _ (zco_in _ _ _ _ hi)
            dsimp only at hcl hsl
            refine va_mmin hx hb (by rw [hml]; exact hL.1.symm) hown (hts _ hw) (hts _ zmin1) (hts _ zmath) (hts _ zmin2) hfr ?_ (by omega) (by omega) hd (zW0 (kk H locs Ls S))
            rw [zcat_map]
            omega
          · rw [if_neg hn] at hz; cases hz
        · cases hz
      · rename_i hi
        by_cases hn : len = 3 ∧ zcat r ≤ 8
        · rw [if_pos hn] at hz
          cases hz
          obtain ⟨rfl, hcat⟩ := hn
          have hw : Jvm.Cond.methodLink (zcn (zo k)) ix Lib.Math.abs.name ∈ zTs := zbi_ok _ (zco_in _ _ _ _ hi)
          dsimp only at hcl hsl
          refine va_mabs hx hb (by rw [hml]; exact hL.1.symm) hown (hts _ hw) (hts _ zabs1) (hts _ zmath) (hts _ zabs2) hfr ?_ (by omega) (by omega) hd (zW0 (kk H locs Ls S))
          rw [zcat_map]
          omega
        · rw [if_neg hn] at hz; cases hz
      · cases hz
    · cases hz
  | _ => exact def_ hz
end zsimo
