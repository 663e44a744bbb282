section zstep
variable {p : Program} {l : Launch} {e : Env} {R : Room} {s : State} {m : MethodId} {args : Array Value} {below : List Frame} {meth : Method} {c : Code} {H : Heap} {locs : List Loc} {cells slots : Nat} {Q : State → Prop}
variable {cc : ByteArray} {pc : Nat} {Ls : Array Slot} {st : List Value}
theorem ztg_eq {o : Int} {t : Nat} (h : ztg pc o = some t) : (pc : Int) + o = (t : Int) := by
  unfold ztg at h
  by_cases hc : ((((pc : Int) + o).toNat : Nat) : Int) = (pc : Int) + o
  · rw [if_pos hc] at h
    rw [← Option.some.inj h]
    exact hc.symm
  · rw [if_neg hc] at h; cases h
theorem zsd_ld {i : Instr} {j ty n : Nat} {v : Value} (hx : p.tables.exec = Jvm.exec) (hb : c.code = cc) (hi : zldx i = some (j, ty, n)) (hd : decode cc pc = .ok (i, n)) (hl : Ls[j]? = some (Slot.val v)) (hv : zty v = ty) (kk : W p l e R s m args below meth c H locs cells slots Q (F0 m (pc + n) Ls (v :: st))) : W p l e R s m args below meth c H locs cells slots Q (F0 m pc Ls st) := by
  cases i with
  | iload q => cases hi; cases v <;> first | exact lv_iload hx hb hd hl kk | (simp [zty] at hv; done)
  | iload_n q => cases hi; cases v <;> first | exact lv_iload_n hx hb hd rfl hl kk | (simp [zty] at hv; done)
  | lload q => cases hi; cases v <;> first | exact lv_lload hx hb hd hl kk | (simp [zty] at hv; done)
  | lload_n q => cases hi; cases v <;> first | exact lv_lload_n hx hb hd rfl hl kk | (simp [zty] at hv; done)
  | aload q => cases hi; cases v <;> first | exact lv_aload hx hb hd hl kk | (simp [zty] at hv; done)
  | aload_n q => cases hi; cases v <;> first | exact lv_aload_n hx hb hd rfl hl kk | (simp [zty] at hv; done)
  | _ => cases hi
theorem zsd_st1 {i : Instr} {j ty n nL : Nat} {v : Value} {lv : List (Nat × Value)} (hx : p.tables.exec = Jvm.exec) (hb : c.code = cc) (hi : zstx i = some (j, ty, n)) (hd : decode cc pc = .ok (i, n)) (hty : ¬ ty = 2) (hl : lv_has Ls nL lv) (hj : j < nL) (hv : zty v = ty) (kk : ∀ Ls', lv_has Ls' nL ((j, v) :: lv.filter (fun q => !(q.1 == j) && !(q.1 + 1 == j && q.2.category == 2))) → W p l e R s m args below meth c H locs cells slots Q (F0 m (pc + n) Ls' st)) : W p l e R s m args below meth c H locs cells slots Q (F0 m pc Ls (v :: st)) := by
  cases i with
  | istore q => cases hi; cases v <;> first | exact lv_istore hx hb hd hl hj rfl kk | (simp [zty] at hv; done)
  | istore_n q => cases hi; cases v <;> first | exact lv_istore_n hx hb hd rfl hl hj rfl kk | (simp [zty] at hv; done)
  | lstore q => cases hi; exact absurd rfl hty
  | lstore_n q => cases hi; exact absurd rfl hty
  | astore q => cases hi; cases v <;> first | exact lv_astore hx hb hd hl hj rfl kk | (simp [zty] at hv; done)
  | astore_n q => cases hi; cases v <;> first | exact lv_astore_n hx hb hd rfl hl hj rfl kk | (simp [zty] at hv; done)
  | _ => cases hi
theorem zsd_st2 {i : Instr} {j ty n nL : Nat} {v : Value} {lv : List (Nat × Value)} (hx : p.tables.exec = Jvm.exec) (hb : c.code = cc) (hi : zstx i = some (j, ty, n)) (hd : decode cc pc = .ok (i, n)) (hty : ty = 2) (hl : lv_has Ls nL lv) (hj : j + 1 < nL) (hv : zty v = ty) (kk : ∀ Ls', lv_has Ls' nL ((j, v) :: lv.filter (fun q => !(q.1 == j) && (!(q.1 == j + 1) && !(q.1 + 1 == j && q.2.category == 2)))) → W p l e R s m args below meth c H locs cells slots Q (F0 m (pc + n) Ls' st)) : W p l e R s m args below meth c H locs cells slots Q (F0 m pc Ls (v :: st)) := by
  cases i with
  | istore q => cases hi; cases hty
  | istore_n q => cases hi; cases hty
  | lstore q => cases hi; cases v <;> first | exact lv_lstore hx hb hd hl hj rfl kk | (simp [zty] at hv; done)
  | lstore_n q => cases hi; cases v <;> first | exact lv_lstore_n hx hb hd rfl hl hj rfl kk | (simp [zty] at hv; done)
  | astore q => cases hi; cases hty
  | astore_n q => cases hi; cases hty
  | _ => cases hi
theorem zsd_cst {o : Nat} {i : Instr} {n : Nat} {v : Value} (hx : p.tables.exec = Jvm.exec) (hb : c.code = cc) (hown : s.vm.findClass (zcn o) = some m.cls) (hts : ∀ w ∈ zTs, w.before args s = true) (hi : zcst o i = some (v, n)) (hd : decode cc pc = .ok (i, n)) (kk : W p l e R s m args below meth c H locs cells slots Q (F0 m (pc + n) Ls (v :: st))) : W p l e R s m args below meth c H locs cells slots Q (F0 m pc Ls st) := by
  cases i with
  | iconst q => cases hi; exact lv_iconst hx hb hd rfl kk
  | bipush q => cases hi; exact lv_bipush hx hb hd rfl kk
  | sipush q => cases hi; exact lv_sipush hx hb hd rfl kk
  | lconst q => cases hi; exact lv_lconst hx hb hd rfl kk
  | ldc_w ix =>
    unfold zcst at hi
    dsimp only at hi
    cases hz : zco0 zcoT o ix with
    | none => rw [hz] at hi; cases hi
    | some x =>
      rw [hz] at hi
      cases hi
      exact lv_ldcw hx hb hown (hts _ (zco_ok _ (zco_in _ _ _ _ hz))) hd kk
  | ldc2_w ix =>
    unfold zcst at hi
    dsimp only at hi
    cases hz : zco0 zclT o ix with
    | none => rw [hz] at hi; cases hi
    | some x =>
      rw [hz] at hi
      cases hi
      exact lv_ldc2 hx hb hown (hts _ (zcl_ok _ (zco_in _ _ _ _ hz))) hd kk
  | _ => cases hi
theorem zsd_ar {i : Instr} {x y v : Int32} (hx : p.tables.exec = Jvm.exec) (hb : c.code = cc) (hi : zar i x y = some v) (hd : decode cc pc = .ok (i, 1)) (kk : W p l e R s m args below meth c H locs cells slots Q (F0 m (pc + 1) Ls (.int v :: st))) : W p l e R s m args below meth c H locs cells slots Q (F0 m pc Ls (.int y :: .int x :: st)) := by
  cases i with
  | iadd => cases hi; exact lv_iadd hx hb hd kk
  | isub => cases hi; exact lv_isub hx hb hd kk
  | imul => cases hi; exact lv_imul hx hb hd kk
  | iand => cases hi; exact lv_iand hx hb hd kk
  | ior => cases hi; exact lv_ior hx hb hd kk
  | ixor => cases hi; exact lv_ixor hx hb hd kk
  | ishl => cases hi; exact lv_ishl hx hb hd kk
  | ishr => cases hi; exact lv_ishr hx hb hd kk
  | iushr => cases hi; exact lv_iushr hx hb hd rfl kk
  | idiv =>
    unfold zar at hi
    dsimp only at hi
    by_cases h0 : y = 0
    · rw [if_pos h0] at hi; cases hi
    · rw [if_neg h0] at hi; cases hi; exact lv_idiv hx hb hd h0 kk
  | irem =>
    unfold zar at hi
    dsimp only at hi
    by_cases h0 : y = 0
    · rw [if_pos h0] at hi; cases hi
    · rw [if_neg h0] at hi; cases hi; exact lv_irem hx hb hd h0 kk
  | _ => cases hi
theorem zsd_al {i : Instr} {x y v : Int64} (hx : p.tables.exec = Jvm.exec) (hb : c.code = cc) (hi : zal i x y = some v) (hd : decode cc pc = .ok (i, 1)) (kk : W p l e R s m args below meth c H locs cells slots Q (F0 m (pc + 1) Ls (.long v :: st))) : W p l e R s m args below meth c H locs cells slots Q (F0 m pc Ls (.long y :: .long x :: st)) := by
  cases i with
  | ladd => cases hi; exact lv_ladd hx hb hd kk
  | lsub => cases hi; exact lv_lsub hx hb hd kk
  | lmul => cases hi; exact lv_lmul hx hb hd kk
  | ldiv =>
    unfold zal at hi
    dsimp only at hi
    by_cases h0 : y = 0
    · rw [if_pos h0] at hi; cases hi
    · rw [if_neg h0] at hi; cases hi; exact lv_ldiv hx hb hd h0 kk
  | lrem =>
    unfold zal at hi
    dsimp only at hi
    by_cases h0 : y = 0
    · rw [if_pos h0] at hi; cases hi
    · rw [if_neg h0] at hi; cases hi; exact lv_lrem hx hb hd h0 kk
  | _ => cases hi
theorem zsd_ic {k : Jvm.ClassFile.Cond} {o : Int} {x y : Int32} (hx : p.tables.exec = Jvm.exec) (hb : c.code = cc) (hd : decode cc pc = .ok (.if_icmp k o, 3)) {t : Nat} (ht : (pc : Int) + o = (t : Int)) (kk : W p l e R s m args below meth c H locs cells slots Q (F0 m (if zic k x y = true then t else pc + 3) Ls st)) : W p l e R s m args below meth c H locs cells slots Q (F0 m pc Ls (.int y :: .int x :: st)) := by
  cases k with
  | eq => exact lv_icmp_eq hx hb hd ht (fun h => by rw [if_pos (by simpa [zic] using h)] at kk; exact kk) (fun h => by rw [if_neg (by simpa [zic] using h)] at kk; exact kk)
  | ne => exact lv_icmp_ne hx hb hd ht (fun h => by rw [if_pos (by simpa [zic] using h)] at kk; exact kk) (fun h => by rw [if_neg (by simpa [zic] using h)] at kk; exact kk)
  | lt => exact lv_icmp_lt hx hb hd ht (fun h => by rw [if_pos (by simpa [zic] using h)] at kk; exact kk) (fun h => by rw [if_neg (by simpa [zic] using h)] at kk; exact kk)
  | ge => exact lv_icmp_ge hx hb hd ht (fun h => by rw [if_pos (by simpa [zic] using h)] at kk; exact kk) (fun h => by rw [if_neg (by simpa [zic] using h)] at kk; exact kk)
  | gt => exact lv_icmp_gt hx hb hd ht (fun h => by rw [if_pos (by simpa [zic] using h)] at kk; exact kk) (fun h => by rw [if_neg (by simpa [zic] using h)] at kk; exact kk)
  | le => exact lv_icmp_le hx hb hd ht (fun h => by rw [if_pos (by simpa [zic] using h)] at kk; exact kk) (fun h => by rw [if_neg (by simpa [zic] using h)] at kk; exact kk)
theorem zsd_if {k : Jvm.ClassFile.Cond} {o : Int} {x : Int32} (hx : p.tables.exec = Jvm.exec) (hb : c.code = cc) (hd : decode cc pc = .ok (.ifCond k o, 3)) {t : Nat} (ht : (pc : Int) + o = (t : Int)) (kk : W p l e R s m args below meth c H locs cells slots Q (F0 m (if zic k x 0 = true then t else pc + 3) Ls st)) : W p l e R s m args below meth c H locs cells slots Q (F0 m pc Ls (.int x :: st)) := by
  cases k with
  | eq => exact lv_if_eq hx hb hd ht (fun h => by rw [if_pos (by simpa [zic] using h)] at kk; exact kk) (fun h => by rw [if_neg (by simpa [zic] using h)] at kk; exact kk)
  | ne => exact lv_if_ne hx hb hd ht (fun h => by rw [if_pos (by simpa [zic] using h)] at kk; exact kk) (fun h => by rw [if_neg (by simpa [zic] using h)] at kk; exact kk)
  | lt => exact lv_if_lt hx hb hd ht (fun h => by rw [if_pos (by simpa [zic] using h)] at kk; exact kk) (fun h => by rw [if_neg (by simpa [zic] using h)] at kk; exact kk)
  | ge => exact lv_if_ge hx hb hd ht (fun h => by rw [if_pos (by simpa [zic] using h)] at kk; exact kk) (fun h => by rw [if_neg (by simpa [zic] using h)] at kk; exact kk)
  | gt => exact lv_if_gt hx hb hd ht (fun h => by rw [if_pos (by simpa [zic] using h)] at kk; exact kk) (fun h => by rw [if_neg (by simpa [zic] using h)] at kk; exact kk)
  | le => exact lv_if_le hx hb hd ht (fun h => by rw [if_pos (by simpa [zic] using h)] at kk; exact kk) (fun h => by rw [if_neg (by simpa [zic] using h)] at kk; exact kk)
end zstep
