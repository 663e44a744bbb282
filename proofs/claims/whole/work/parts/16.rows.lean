/-! one row an instruction, for the runs behind the constructors -/
abbrev zrem (x y : Int32) : Int32 := x - x / y * y
abbrev zrmL (x y : Int64) : Int64 := x - x / y * y
theorem zif {α : Type} {c : Prop} [Decidable c] {A A' B B' : α} (h1 : A = A') (h2 : B = B') : (if c then A else B) = if c then A' else B' := by rw [h1, h2]
section zrows
variable {X : zX} {r : Nat} {k : zM} {pc n : Nat} {ls ls' : zL} {st : List Value} {h : zH} {i : Instr}
theorem zsim_cst {v : Value} {s : zS} (hc : zcst (zo k) i = some (v, n)) : zsim X k i n s = some (s.1 + n, s.2.1, v :: s.2.2.1, s.2.2.2) := by
  obtain ⟨pc, ls, st, ph, hh⟩ := s
  unfold zsim
  rw [hc]
  dsimp only
  unfold zxCst
  dsimp only
  rw [if_pos rfl]
theorem zsq_iadd {s : zS} : zsim X k .iadd n s = zxAr .iadd n s := rfl
theorem zsq_isub {s : zS} : zsim X k .isub n s = zxAr .isub n s := rfl
theorem zsq_imul {s : zS} : zsim X k .imul n s = zxAr .imul n s := rfl
theorem zsq_idiv {s : zS} : zsim X k .idiv n s = zxAr .idiv n s := rfl
theorem zsq_irem {s : zS} : zsim X k .irem n s = zxAr .irem n s := rfl
theorem zsq_iand {s : zS} : zsim X k .iand n s = zxAr .iand n s := rfl
theorem zsq_ior {s : zS} : zsim X k .ior n s = zxAr .ior n s := rfl
theorem zsq_ixor {s : zS} : zsim X k .ixor n s = zxAr .ixor n s := rfl
theorem zsq_ishl {s : zS} : zsim X k .ishl n s = zxAr .ishl n s := rfl
theorem zsq_ishr {s : zS} : zsim X k .ishr n s = zxAr .ishr n s := rfl
theorem zsq_iushr {s : zS} : zsim X k .iushr n s = zxAr .iushr n s := rfl
theorem zsq_ladd {s : zS} : zsim X k .ladd n s = zxAr .ladd n s := rfl
theorem zsq_lsub {s : zS} : zsim X k .lsub n s = zxAr .lsub n s := rfl
theorem zsq_lmul {s : zS} : zsim X k .lmul n s = zxAr .lmul n s := rfl
theorem zsq_ldiv {s : zS} : zsim X k .ldiv n s = zxAr .ldiv n s := rfl
theorem zsq_lrem {s : zS} : zsim X k .lrem n s = zxAr .lrem n s := rfl
theorem zsq_getfield {ix : Nat} {s : zS} : zsim X k (.getfield ix) n s = zxGet k ix n s := rfl
theorem zsq_putfield {ix : Nat} {s : zS} : zsim X k (.putfield ix) n s = zxPut k ix n s := rfl
theorem zsq_iaload {s : zS} : zsim X k .iaload n s = zxAld X n s := rfl
theorem zsq_iastore {s : zS} : zsim X k .iastore n s = zxAst n s := rfl
theorem zsq_aaload {s : zS} : zsim X k .aaload n s = zxQld n s := rfl
theorem zsq_arraylength {s : zS} : zsim X k .arraylength n s = zxLen X n s := rfl
theorem zsq_iinc {j : Nat} {q : Int} {s : zS} : zsim X k (.iinc j q) n s = zxInc j q n s := rfl
theorem zsq_goto {o : Int} {s : zS} : zsim X k (.goto o) n s = if n = 3 then zgo (ztg s.1 o) s.2.1 s.2.2.1 s.2.2.2.1 s.2.2.2.2 else none := rfl
theorem zsq_nn {o : Int} {s : zS} : zsim X k (.ifnonnull o) n s = zxNnull o n s := rfl
theorem zsq_if {c : Jvm.ClassFile.Cond} {o : Int} {s : zS} : zsim X k (.ifCond c o) n s = zxIf c o n s := rfl
theorem zsq_ic {c : Jvm.ClassFile.Cond} {o : Int} {s : zS} : zsim X k (.if_icmp c o) n s = zxIc c o n s := rfl
theorem zsq_is {ix : Nat} {s : zS} : zsim X k (.invokestatic ix) n s = zxMath k ix n s := rfl
theorem zsq_iv {ix : Nat} {s : zS} : zsim X k (.invokevirtual ix) n s = zxAr (.invokevirtual ix) n s := rfl
theorem rn_push {v : Value} (hd : decode (zb k) pc = .ok (i, n)) (hc : zcst (zo k) i = some (v, n)) : zrn X r k pc ls st h = zrn X r k (pc + n) ls (v :: st) h := rn_s hd (zsim_cst hc)
theorem rn_ld {j ty : Nat} {v : Value} (hd : decode (zb k) pc = .ok (i, n)) (hi : zldx i = some (j, ty, n)) (hc : zcst (zo k) i = none) (hl : ls[j]? = some (some v)) (hv : zty v = ty) : zrn X r k pc ls st h = zrn X r k (pc + n) ls (v :: st) h := rn_s hd (by
  unfold zsim
  rw [hc, hi]
  dsimp only
  unfold zxLd
  dsimp only
  rw [hl]
  dsimp only
  rw [if_pos ⟨rfl, hv⟩])
theorem rn_st {j ty : Nat} {v : Value} (hd : decode (zb k) pc = .ok (i, n)) (hi : zstx i = some (j, ty, n)) (hc : zcst (zo k) i = none) (hi2 : zldx i = none) (hty : ¬ ty = 2) (hv : zty v = ty) (hj : j < ls.length) (hl : zput1 ls j v = ls') : zrn X r k pc ls (v :: st) h = zrn X r k (pc + n) ls' st h := rn_s hd (by
  unfold zsim
  rw [hc, hi2, hi]
  dsimp only
  unfold zxSt
  dsimp only
  rw [if_pos ⟨rfl, hv⟩, if_neg hty, if_pos hj, hl])
theorem rn_st2 {j : Nat} {v : Int64} (hd : decode (zb k) pc = .ok (i, n)) (hi : zstx i = some (j, 2, n)) (hc : zcst (zo k) i = none) (hi2 : zldx i = none) (hj : j + 1 < ls.length) (hl : zput2 ls j (.long v) = ls') : zrn X r k pc ls (.long v :: st) h = zrn X r k (pc + n) ls' st h := rn_s hd (by
  unfold zsim
  rw [hc, hi2, hi]
  dsimp only
  unfold zxSt
  dsimp only
  rw [if_pos ⟨rfl, rfl⟩, if_pos rfl, if_pos hj, hl])
theorem zar_sim {x y v : Int32} {s : zS} (ha : zar i x y = some v) : zsim X k i 1 (pc, ls, .int y :: .int x :: st, zPH, h) = some (pc + 1, ls, .int v :: st, zPH, h) := by
  cases i with
  | iadd => rw [zsq_iadd]; unfold zxAr; dsimp only; rw [ha]; rfl
  | isub => rw [zsq_isub]; unfold zxAr; dsimp only; rw [ha]; rfl
  | imul => rw [zsq_imul]; unfold zxAr; dsimp only; rw [ha]; rfl
  | idiv => rw [zsq_idiv]; unfold zxAr; dsimp only; rw [ha]; rfl
  | irem => rw [zsq_irem]; unfold zxAr; dsimp only; rw [ha]; rfl
  | iand => rw [zsq_iand]; unfold zxAr; dsimp only; rw [ha]; rfl
  | ior => rw [zsq_ior]; unfold zxAr; dsimp only; rw [ha]; rfl
  | ixor => rw [zsq_ixor]; unfold zxAr; dsimp only; rw [ha]; rfl
  | ishl => rw [zsq_ishl]; unfold zxAr; dsimp only; rw [ha]; rfl
  | ishr => rw [zsq_ishr]; unfold zxAr; dsimp only; rw [ha]; rfl
  | iushr => rw [zsq_iushr]; unfold zxAr; dsimp only; rw [ha]; rfl
  | _ => cases ha
theorem zal_sim {x y v : Int64} {s : zS} (ha : zal i x y = some v) : zsim X k i 1 (pc, ls, .long y :: .long x :: st, zPH, h) = some (pc + 1, ls, .long v :: st, zPH, h) := by
  cases i with
  | ladd => rw [zsq_ladd]; unfold zxAr; dsimp only; rw [ha]; rfl
  | lsub => rw [zsq_lsub]; unfold zxAr; dsimp only; rw [ha]; rfl
  | lmul => rw [zsq_lmul]; unfold zxAr; dsimp only; rw [ha]; rfl
  | ldiv => rw [zsq_ldiv]; unfold zxAr; dsimp only; rw [ha]; rfl
  | lrem => rw [zsq_lrem]; unfold zxAr; dsimp only; rw [ha]; rfl
  | _ => cases ha
theorem rn_a2 {x y v : Int32} (hd : decode (zb k) pc = .ok (i, 1)) (ha : zar i x y = some v) : zrn X r k pc ls (.int y :: .int x :: st) h = zrn X r k (pc + 1) ls (.int v :: st) h := rn_s hd (zar_sim (s := (0, [], [], zPH, h)) ha)
theorem rn_al {x y v : Int64} (hd : decode (zb k) pc = .ok (i, 1)) (ha : zal i x y = some v) : zrn X r k pc ls (.long y :: .long x :: st) h = zrn X r k (pc + 1) ls (.long v :: st) h := rn_s hd (zal_sim (s := (0, [], [], zPH, h)) ha)
theorem zar_div {x y : Int32} (hy : ¬ y = 0) : zar .idiv x y = some (x / y) := if_neg hy
theorem zar_rem {x y : Int32} (hy : ¬ y = 0) : zar .irem x y = some (zrem x y) := if_neg hy
theorem zal_div {x y : Int64} (hy : ¬ y = 0) : zal .ldiv x y = some (x / y) := if_neg hy
theorem zal_rem {x y : Int64} (hy : ¬ y = 0) : zal .lrem x y = some (zrmL x y) := if_neg hy
theorem rn_neg {x : Int32} (hd : decode (zb k) pc = .ok (.ineg, 1)) : zrn X r k pc ls (.int x :: st) h = zrn X r k (pc + 1) ls (.int (-x) :: st) h := rn_s hd rfl
theorem rn_i2l {x : Int32} (hd : decode (zb k) pc = .ok (.i2l, 1)) : zrn X r k pc ls (.int x :: st) h = zrn X r k (pc + 1) ls (.long x.toInt64 :: st) h := rn_s hd rfl
theorem rn_lcmp {x y : Int64} (hd : decode (zb k) pc = .ok (.lcmp, 1)) : zrn X r k pc ls (.long y :: .long x :: st) h = zrn X r k (pc + 1) ls (.int (lg_cmp x y) :: st) h := rn_s hd rfl
theorem rn_dup {v : Value} (hd : decode (zb k) pc = .ok (.dup, 1)) (hv : v.category = 1) : zrn X r k pc ls (v :: st) h = zrn X r k (pc + 1) ls (v :: v :: st) h := rn_s hd (if_pos ⟨rfl, hv⟩)
theorem rn_dup2 {v u : Value} (hd : decode (zb k) pc = .ok (.dup2, 1)) (hv : v.category = 1) (hu : u.category = 1) : zrn X r k pc ls (v :: u :: st) h = zrn X r k (pc + 1) ls (v :: u :: v :: u :: st) h := rn_s hd (if_pos ⟨rfl, hv, hu⟩)
theorem rn_pop {v : Value} (hd : decode (zb k) pc = .ok (.pop, 1)) (hv : v.category = 1) : zrn X r k pc ls (v :: st) h = zrn X r k (pc + 1) ls st h := rn_s hd (if_pos ⟨rfl, hv⟩)
theorem rn_inc {j : Nat} {q : Int} {x c : Int32} (hd : decode (zb k) pc = .ok (.iinc j q, 3)) (hl : ls[j]? = some (some (.int x))) (hc : Int32.ofInt q = c) (hl2 : zput1 ls j (.int (x + c)) = ls') : zrn X r k pc ls st h = zrn X r k (pc + 3) ls' st h := rn_s hd (by
  rw [zsq_iinc]
  unfold zxInc
  dsimp only
  rw [hl]
  dsimp only
  rw [if_pos rfl, hc, hl2])
theorem rn_goto {o : Int} {t : Nat} (hd : decode (zb k) pc = .ok (.goto o, 3)) (ht : ztg pc o = some t) : zrn X r k pc ls st h = zrn X r k t ls st h := rn_s hd (by
  rw [zsq_goto]
  dsimp only
  rw [if_pos rfl, ht]
  rfl)
theorem rn_ic {c : Jvm.ClassFile.Cond} {o : Int} {t : Nat} {x y : Int32} (hd : decode (zb k) pc = .ok (.if_icmp c o, 3)) (ht : ztg pc o = some t) : zrn X r k pc ls (.int y :: .int x :: st) h = zrn X r k (if zic c x y = true then t else pc + 3) ls st h := rn_s hd (by
  rw [zsq_ic]
  unfold zxIc
  dsimp only
  rw [if_pos rfl, ht])
theorem rn_if {c : Jvm.ClassFile.Cond} {o : Int} {t : Nat} {x : Int32} (hd : decode (zb k) pc = .ok (.ifCond c o, 3)) (ht : ztg pc o = some t) : zrn X r k pc ls (.int x :: st) h = zrn X r k (if zic c x 0 = true then t else pc + 3) ls st h := rn_s hd (by
  rw [zsq_if]
  unfold zxIf
  dsimp only
  rw [if_pos rfl, ht])
theorem zsplit {b : Bool} {c : Prop} [Decidable c] {t u : Nat} (hb : b = decide c) : zrn X r k (if b = true then t else u) ls st h = if c then zrn X r k t ls st h else zrn X r k u ls st h := by
  subst hb
  by_cases hc : c
  · rw [if_pos hc, if_pos (decide_eq_true hc)]
  · rw [if_neg hc, if_neg (fun z => hc (of_decide_eq_true z))]
theorem zsplitN {b : Bool} {c : Prop} [Decidable c] {t u : Nat} (hb : b = decide (¬ c)) : zrn X r k (if b = true then t else u) ls st h = if c then zrn X r k u ls st h else zrn X r k t ls st h := by
  subst hb
  by_cases hc : c
  · rw [if_pos hc, if_neg (fun z => (of_decide_eq_true z : ¬ c) hc)]
  · rw [if_neg hc, if_pos (decide_eq_true hc)]
theorem rn_ic_eq {o : Int} {t : Nat} {x y : Int32} (hd : decode (zb k) pc = .ok (.if_icmp .eq o, 3)) (ht : ztg pc o = some t) : zrn X r k pc ls (.int y :: .int x :: st) h = if x = y then zrn X r k t ls st h else zrn X r k (pc + 3) ls st h := (rn_ic hd ht).trans (zsplit rfl)
theorem rn_if_eq {o : Int} {t : Nat} {x : Int32} (hd : decode (zb k) pc = .ok (.ifCond .eq o, 3)) (ht : ztg pc o = some t) : zrn X r k pc ls (.int x :: st) h = if x = 0 then zrn X r k t ls st h else zrn X r k (pc + 3) ls st h := (rn_if hd ht).trans (zsplit rfl)
theorem rn_ic_lt {o : Int} {t : Nat} {x y : Int32} (hd : decode (zb k) pc = .ok (.if_icmp .lt o, 3)) (ht : ztg pc o = some t) : zrn X r k pc ls (.int y :: .int x :: st) h = if x < y then zrn X r k t ls st h else zrn X r k (pc + 3) ls st h := (rn_ic hd ht).trans (zsplit rfl)
theorem rn_if_lt {o : Int} {t : Nat} {x : Int32} (hd : decode (zb k) pc = .ok (.ifCond .lt o, 3)) (ht : ztg pc o = some t) : zrn X r k pc ls (.int x :: st) h = if x < 0 then zrn X r k t ls st h else zrn X r k (pc + 3) ls st h := (rn_if hd ht).trans (zsplit rfl)
theorem rn_ic_ge {o : Int} {t : Nat} {x y : Int32} (hd : decode (zb k) pc = .ok (.if_icmp .ge o, 3)) (ht : ztg pc o = some t) : zrn X r k pc ls (.int y :: .int x :: st) h = if y ≤ x then zrn X r k t ls st h else zrn X r k (pc + 3) ls st h := (rn_ic hd ht).trans (zsplit rfl)
theorem rn_if_ge {o : Int} {t : Nat} {x : Int32} (hd : decode (zb k) pc = .ok (.ifCond .ge o, 3)) (ht : ztg pc o = some t) : zrn X r k pc ls (.int x :: st) h = if 0 ≤ x then zrn X r k t ls st h else zrn X r k (pc + 3) ls st h := (rn_if hd ht).trans (zsplit rfl)
theorem rn_ic_gt {o : Int} {t : Nat} {x y : Int32} (hd : decode (zb k) pc = .ok (.if_icmp .gt o, 3)) (ht : ztg pc o = some t) : zrn X r k pc ls (.int y :: .int x :: st) h = if y < x then zrn X r k t ls st h else zrn X r k (pc + 3) ls st h := (rn_ic hd ht).trans (zsplit rfl)
theorem rn_if_gt {o : Int} {t : Nat} {x : Int32} (hd : decode (zb k) pc = .ok (.ifCond .gt o, 3)) (ht : ztg pc o = some t) : zrn X r k pc ls (.int x :: st) h = if 0 < x then zrn X r k t ls st h else zrn X r k (pc + 3) ls st h := (rn_if hd ht).trans (zsplit rfl)
theorem rn_ic_le {o : Int} {t : Nat} {x y : Int32} (hd : decode (zb k) pc = .ok (.if_icmp .le o, 3)) (ht : ztg pc o = some t) : zrn X r k pc ls (.int y :: .int x :: st) h = if x ≤ y then zrn X r k t ls st h else zrn X r k (pc + 3) ls st h := (rn_ic hd ht).trans (zsplit rfl)
theorem rn_if_le {o : Int} {t : Nat} {x : Int32} (hd : decode (zb k) pc = .ok (.ifCond .le o, 3)) (ht : ztg pc o = some t) : zrn X r k pc ls (.int x :: st) h = if x ≤ 0 then zrn X r k t ls st h else zrn X r k (pc + 3) ls st h := (rn_if hd ht).trans (zsplit rfl)
theorem rn_ic_ne {o : Int} {t : Nat} {x y : Int32} (hd : decode (zb k) pc = .ok (.if_icmp .ne o, 3)) (ht : ztg pc o = some t) : zrn X r k pc ls (.int y :: .int x :: st) h = if x = y then zrn X r k (pc + 3) ls st h else zrn X r k t ls st h := (rn_ic hd ht).trans (zsplitN rfl)
theorem rn_if_ne {o : Int} {t : Nat} {x : Int32} (hd : decode (zb k) pc = .ok (.ifCond .ne o, 3)) (ht : ztg pc o = some t) : zrn X r k pc ls (.int x :: st) h = if x = 0 then zrn X r k (pc + 3) ls st h else zrn X r k t ls st h := (rn_if hd ht).trans (zsplitN rfl)
theorem rn_nn {o : Int} {t a : Nat} (hd : decode (zb k) pc = .ok (.ifnonnull o, 3)) (ht : ztg pc o = some t) : zrn X r k pc ls (.ref a :: st) h = zrn X r k t ls st h := rn_s hd (by
  rw [zsq_nn]
  unfold zxNnull
  dsimp only
  rw [if_pos rfl, ht]
  rfl)
theorem rn_nu {o : Int} {a : Nat} (hd : decode (zb k) pc = .ok (.ifnull o, 3)) : zrn X r k pc ls (.ref a :: st) h = zrn X r k (pc + 3) ls st h := rn_s hd rfl
theorem zcl140 {a : Nat} {x : Nat × Nat} (h : zcl 140 a = x) : zcl zPH.1 a = x := h
theorem rn_gi {ix ci j a : Nat} (hd : decode (zb k) pc = .ok (.getfield ix, 3)) (hf : zfd (zo k) ix = (ci, j, 0)) (ha : zcl 140 a = (2 + ci, zNf ci)) : zrn X r k pc ls (.ref a :: st) h = zrn X r k (pc + 3) ls (.int (h.1 a j) :: st) h := rn_s hd (by
  rw [zsq_getfield]
  unfold zxGet
  dsimp only
  rw [hf]
  dsimp only
  rw [if_pos ⟨rfl, ha⟩]
  try rfl)
theorem rn_gz {ix ci j a : Nat} (hd : decode (zb k) pc = .ok (.getfield ix, 3)) (hf : zfd (zo k) ix = (ci, j, 1)) (ha : zcl 140 a = (2 + ci, zNf ci)) : zrn X r k pc ls (.ref a :: st) h = zrn X r k (pc + 3) ls (.int (h.1 a j) :: st) h := rn_s hd (by
  rw [zsq_getfield]
  unfold zxGet
  dsimp only
  rw [hf]
  dsimp only
  rw [if_pos ⟨rfl, ha⟩]
  try rfl)
theorem rn_gr {ix ci j a q : Nat} (hd : decode (zb k) pc = .ok (.getfield ix, 3)) (hf : zfd (zo k) ix = (ci, j, 2)) (ha : zcl 140 a = (2 + ci, zNf ci)) (hq : zlk zPH.2 a j = q + 1) : zrn X r k pc ls (.ref a :: st) h = zrn X r k (pc + 3) ls (.ref (q + 1) :: st) h := rn_s hd (by
  rw [zsq_getfield]
  unfold zxGet
  dsimp only
  rw [hf]
  dsimp only
  rw [if_pos ⟨rfl, ha⟩, hq]
  rfl)
theorem rn_gk {ix ci j a q : Nat} (hd : decode (zb k) pc = .ok (.getfield ix, 3)) (hf : zfd (zo k) ix = (ci, j, 3)) (ha : zcl 140 a = (2 + ci, zNf ci)) (hq : h.2 = q + 1) : zrn X r k pc ls (.ref a :: st) h = zrn X r k (pc + 3) ls (.ref (q + 1) :: st) h := rn_s hd (by
  rw [zsq_getfield]
  unfold zxGet
  dsimp only
  rw [hf]
  dsimp only
  rw [if_pos ⟨rfl, ha⟩, hq]
  rfl)
theorem rn_pi {ix ci j a : Nat} {x : Int32} (hd : decode (zb k) pc = .ok (.putfield ix, 3)) (hf : zfd (zo k) ix = (ci, j, 0)) (ha : zcl 140 a = (2 + ci, zNf ci)) : zrn X r k pc ls (.int x :: .ref a :: st) h = zrn X r k (pc + 3) ls st (zup h.1 a j x, h.2) := rn_s hd (by
  rw [zsq_putfield]
  unfold zxPut
  dsimp only
  rw [hf]
  dsimp only
  rw [if_pos ⟨rfl, ha⟩]
  try rfl)
theorem rn_pz {ix ci j a : Nat} {x : Int32} (hd : decode (zb k) pc = .ok (.putfield ix, 3)) (hf : zfd (zo k) ix = (ci, j, 1)) (ha : zcl 140 a = (2 + ci, zNf ci)) (hx : x = 0 ∨ x = 1) : zrn X r k pc ls (.int x :: .ref a :: st) h = zrn X r k (pc + 3) ls st (zup h.1 a j x, h.2) := rn_s hd (by
  rw [zsq_putfield]
  unfold zxPut
  dsimp only
  rw [hf]
  dsimp only
  rw [if_pos ⟨rfl, ha⟩]
  exact if_pos hx)
theorem rn_pk {ix ci j a q : Nat} (hd : decode (zb k) pc = .ok (.putfield ix, 3)) (hf : zfd (zo k) ix = (ci, j, 3)) (ha : zcl 140 a = (2 + ci, zNf ci)) : zrn X r k pc ls (.ref (q + 1) :: .ref a :: st) h = zrn X r k (pc + 3) ls st (h.1, q + 1) := rn_s hd (by
  rw [zsq_putfield]
  unfold zxPut
  dsimp only
  rw [hf]
  dsimp only
  rw [if_pos ⟨rfl, ha⟩]
  rfl)
theorem zgd_if {c : Prop} [Decidable c] {s' : zS} {b : Bool} {t : Nat} {l1 : zL} {s1 : List Value} {h1 : zH} (hd : decode (zb k) pc = .ok (i, n)) (hs : zsim X k i n (pc, ls, st, zPH, h) = if b = true then some (t, l1, s1, zPH, h1) else none) (hr : zrtn k i n (pc, ls, st, zPH, h) = none) (hi : zinv k i n (pc, ls, st, zPH, h) = none) : zrn X r k pc ls st h = if b = true then zrn X r k t l1 s1 h1 else none := by
  by_cases hb : b = true
  · rw [if_pos hb] at hs ⊢
    exact rn_s hd hs
  · rw [if_neg hb] at hs ⊢
    exact rn_n hd hs hr hi
theorem zand1 {c : Bool} {α : Type} {A B : α} {p q : Prop} [Decidable p] [Decidable q] (hp : p) (hq : q) : (if p ∧ q ∧ c = true then A else B) = if c = true then A else B := by
  by_cases h : c = true
  · rw [if_pos h, if_pos ⟨hp, hq, h⟩]
  · rw [if_neg h, if_neg (fun z => h z.2.2)]
theorem rn_ial {a m : Nat} {x : Int32} (hd : decode (zb k) pc = .ok (.iaload, 1)) (h0 : 0 < a) (ha : zcl 140 a = (0, m)) : zrn X r k pc ls (.int x :: .ref a :: st) h = if zin x m = true then zrn X r k (pc + 1) ls (.int (h.1 a x.toNatClampNeg) :: st) h else none := by
  obtain ⟨a, rfl⟩ : ∃ q, a = q + 1 := ⟨a - 1, by omega⟩
  exact zgd_if (c := True) (s' := (0, [], [], zPH, h)) hd (by
    rw [zsq_iaload]
    unfold zxAld
    dsimp only
    rw [zcl140 ha]
    exact zand1 rfl rfl) rfl rfl
theorem rn_sld {x : Int32} (hd : decode (zb k) pc = .ok (.iaload, 1)) : zrn X r k pc ls (.int x :: .ref 0 :: st) h = if zin x X.1 = true then zrn X r k (pc + 1) ls (.int (X.2 x.toNatClampNeg) :: st) h else none := zgd_if (c := True) (s' := (0, [], [], zPH, h)) hd (by
  rw [zsq_iaload]
  unfold zxAld
  dsimp only
  by_cases hz : zin x X.1 = true
  · rw [if_pos hz, if_pos ⟨rfl, hz⟩]
  · rw [if_neg hz, if_neg (fun q => hz q.2)]) rfl rfl
theorem rn_ias {a m : Nat} {x v : Int32} (hd : decode (zb k) pc = .ok (.iastore, 1)) (ha : zcl 140 a = (0, m)) : zrn X r k pc ls (.int v :: .int x :: .ref a :: st) h = if zin x m = true then zrn X r k (pc + 1) ls st (zup h.1 a x.toNatClampNeg v, h.2) else none := zgd_if (c := True) (s' := (0, [], [], zPH, h)) hd (by
  rw [zsq_iastore]
  unfold zxAst
  dsimp only
  rw [zcl140 ha]
  exact zand1 rfl rfl) rfl rfl
theorem rn_aal {a m : Nat} {x : Int32} (hd : decode (zb k) pc = .ok (.aaload, 1)) (ha : zcl 140 a = (1, m)) : zrn X r k pc ls (.int x :: .ref a :: st) h = if zin x m = true then zrn X r k (pc + 1) ls (zrv (zlk zPH.2 a x.toNatClampNeg) :: st) h else none := zgd_if (c := True) (s' := (0, [], [], zPH, h)) hd (by
  rw [zsq_aaload]
  unfold zxQld
  dsimp only
  rw [zcl140 ha]
  exact zand1 rfl rfl) rfl rfl
theorem rn_len {a t m : Nat} (hd : decode (zb k) pc = .ok (.arraylength, 1)) (ha : zcl 140 (a + 1) = (t, m)) (ht : t = 0 ∨ t = 1) : zrn X r k pc ls (.ref (a + 1) :: st) h = zrn X r k (pc + 1) ls (.int (Int32.ofNat m) :: st) h := rn_s hd (by
  rw [zsq_arraylength]
  unfold zxLen
  dsimp only
  rw [zcl140 ha]
  dsimp only
  rw [if_pos ⟨rfl, ht⟩])
theorem rn_slen (hd : decode (zb k) pc = .ok (.arraylength, 1)) : zrn X r k pc ls (.ref 0 :: st) h = zrn X r k (pc + 1) ls (.int (Int32.ofNat X.1) :: st) h := rn_s hd rfl
theorem rn_min {ix : Nat} {x y : Int32} (hd : decode (zb k) pc = .ok (.invokestatic ix, 3)) (hb : zco0 zbiT (zo k) ix = some 2) (hc : zcat st ≤ 8) : zrn X r k pc ls (.int y :: .int x :: st) h = zrn X r k (pc + 3) ls (.int (if y < x then y else x) :: st) h := rn_s hd (by
  rw [zsq_is]
  unfold zxMath
  dsimp only
  rw [hb]
  exact if_pos ⟨rfl, hc⟩)
theorem rn_abs {ix : Nat} {y : Int32} (hd : decode (zb k) pc = .ok (.invokestatic ix, 3)) (hb : zco0 zbiT (zo k) ix = some 3) (hc : zcat st ≤ 8) : zrn X r k pc ls (.int y :: st) h = zrn X r k (pc + 3) ls (.int (if 0 ≤ y then y else 0 - y) :: st) h := rn_s hd (by
  rw [zsq_is]
  unfold zxMath
  dsimp only
  rw [hb]
  exact if_pos ⟨rfl, hc⟩)
theorem rn_ri {v : Int32} (hd : decode (zb k) pc = .ok (.ireturn, 1)) (hr : zrt k = some .int) : zrn X r k pc ls [.int v] h = some (some (.int v), h) := rn_r hd rfl (by unfold zrtn; rw [hr]; rfl)
theorem rn_rz {v : Int32} (hd : decode (zb k) pc = .ok (.ireturn, 1)) (hr : zrt k = some .boolean) (hv : v = 0 ∨ v = 1) : zrn X r k pc ls [.int v] h = some (some (.int v), h) := rn_r hd rfl (by unfold zrtn; rw [hr]; dsimp only; rw [if_pos rfl, if_pos hv])
theorem rn_rl {v : Int64} (hd : decode (zb k) pc = .ok (.lreturn, 1)) (hr : zrt k = some .long) : zrn X r k pc ls [.long v] h = some (some (.long v), h) := rn_r hd rfl (by unfold zrtn; rw [hr]; rfl)
theorem rn_rr {a : Nat} {nm : String} (hd : decode (zb k) pc = .ok (.areturn, 1)) (hr : zrt k = some (.object nm)) : zrn X r k pc ls [.ref a] h = some (some (.ref a), h) := rn_r hd rfl (by unfold zrtn; rw [hr]; rfl)
theorem rn_rv (hd : decode (zb k) pc = .ok (.return_, 1)) (hr : zrt k = none) : zrn X r k pc ls [] h = some (none, h) := rn_r hd rfl (by unfold zrtn; rw [hr]; rfl)
/-- the kind of an answer -/
theorem zrtn_ty {s : zS} {x : zR} (hz : zrtn k i n s = some x) : ((zrt k = some .int ∨ zrt k = some .boolean) → ∃ v, x.1 = some (.int v)) ∧ (zrt k = some .long → ∃ v, x.1 = some (.long v)) ∧ (zrt k = none → x.1 = none) ∧ (∀ nm, zrt k = some (.object nm) → ∃ a, x.1 = some (.ref a)) := by
  obtain ⟨pc, ls, st, ph, hh⟩ := s
  unfold zrtn at hz
  dsimp only at hz
  by_cases hl : n = 1
  · rw [if_pos hl] at hz
    split at hz
    · rename_i v hk
      cases hz
      rw [hk]
      exact ⟨fun _ => ⟨_, rfl⟩, fun z => (by cases z), fun z => (by cases z), fun _ z => (by cases z)⟩
    · rename_i v hk
      split at hz
      · cases hz
        rw [hk]
        exact ⟨fun _ => ⟨_, rfl⟩, fun z => (by cases z), fun z => (by cases z), fun _ z => (by cases z)⟩
      · cases hz
    · rename_i v hk
      cases hz
      rw [hk]
      exact ⟨fun z => (by rcases z with z | z <;> cases z), fun _ => ⟨_, rfl⟩, fun z => (by cases z), fun _ z => (by cases z)⟩
    · rename_i a nm hk
      cases hz
      rw [hk]
      exact ⟨fun z => (by rcases z with z | z <;> cases z), fun z => (by cases z), fun z => (by cases z), fun _ _ => ⟨_, rfl⟩⟩
    · rename_i hk
      cases hz
      rw [hk]
      exact ⟨fun z => (by rcases z with z | z <;> cases z), fun z => (by cases z), fun _ => rfl, fun _ z => (by cases z)⟩
    · cases hz
  · rw [if_neg hl] at hz; cases hz
theorem zex_ty {C : zM → List Value → zP → zH → Option zR} {x : zR} : ∀ (N : Nat) (s : zS), zex X r k C N s = some x → ∃ i n s', zrtn k i n s' = some x := by
  intro N
  induction N with
  | zero => intro s hz; cases hz
  | succ N ih =>
    intro s hz
    unfold zex at hz
    cases hs : zst X r k C s with
    | none => rw [hs] at hz; cases hz
    | some y =>
      rw [hs] at hz
      cases y with
      | inl s' => exact ih s' hz
      | inr z =>
        cases hz
        obtain ⟨i, len, h1, h2⟩ := zst_inr hs
        exact ⟨i, len, s, h2⟩
theorem zcf_ty {m : zM} {as : List Value} {x : Option Value × zH} (hz : zcf X m as h = some x) : ((zrt m = some .int ∨ zrt m = some .boolean) → ∃ v, x.1 = some (.int v)) ∧ (zrt m = some .long → ∃ v, x.1 = some (.long v)) ∧ (zrt m = none → x.1 = none) ∧ (∀ nm, zrt m = some (.object nm) → ∃ a, x.1 = some (.ref a)) := by
  obtain ⟨N, hN⟩ := zlim_some hz
  have hN := zfr_some hN
  unfold zev at hN
  by_cases hl : (zla as).length ≤ zml m
  · rw [if_pos hl] at hN
    obtain ⟨i, n, s', h1⟩ := zex_ty _ _ hN
    exact zrtn_ty h1
  · rw [if_neg hl] at hN; cases hN
def zbI (o : Option (Option Value × zH)) (f : Int32 → zH → Option (Option Value × zH)) : Option (Option Value × zH) := match o with | some (some (.int v), h) => f v h | _ => none
def zbL (o : Option (Option Value × zH)) (f : Int64 → zH → Option (Option Value × zH)) : Option (Option Value × zH) := match o with | some (some (.long v), h) => f v h | _ => none
def zbR (o : Option (Option Value × zH)) (f : Nat → zH → Option (Option Value × zH)) : Option (Option Value × zH) := match o with | some (some (.ref v), h) => f v h | _ => none
def zbV (o : Option (Option Value × zH)) (f : zH → Option (Option Value × zH)) : Option (Option Value × zH) := match o with | some (none, h) => f h | _ => none
theorem zbI_congr {o : Option (Option Value × zH)} {f g : Int32 → zH → Option (Option Value × zH)} (e : ∀ v h, f v h = g v h) : zbI o f = zbI o g := by
  have : f = g := funext fun v => funext fun h => e v h
  rw [this]
theorem zbL_congr {o : Option (Option Value × zH)} {f g : Int64 → zH → Option (Option Value × zH)} (e : ∀ v h, f v h = g v h) : zbL o f = zbL o g := by
  have : f = g := funext fun v => funext fun h => e v h
  rw [this]
theorem zbV_congr {o : Option (Option Value × zH)} {f g : zH → Option (Option Value × zH)} (e : ∀ h, f h = g h) : zbV o f = zbV o g := by
  have : f = g := funext fun h => e h
  rw [this]
theorem zbI_some {v : Int32} {f : Int32 → zH → Option (Option Value × zH)} : zbI (some (some (.int v), h)) f = f v h := rfl
theorem zbL_some {v : Int64} {f : Int64 → zH → Option (Option Value × zH)} : zbL (some (some (.long v), h)) f = f v h := rfl
theorem zbR_some {v : Nat} {f : Nat → zH → Option (Option Value × zH)} : zbR (some (some (.ref v), h)) f = f v h := rfl
theorem zbV_some {f : zH → Option (Option Value × zH)} : zbV (some (none, h)) f = f h := rfl
variable {m : zM} {as rest : List Value} {ix kd a : Nat} {ar : List Value}
theorem zinv_v (hm : zco0 zmtT (zo k) ix = some (kd, m)) (hkd : kd ≤ 1) (hl : znp m ≤ st.length) (h1 : st.drop (znp m) = .ref a :: rest) (h2 : (st.take (znp m)).reverse = ar) (ha : zcl 140 a = (2 + zo m, zNf (zo m))) (hc : zcat rest ≤ 8) : zinv k (.invokevirtual ix) 3 (pc, ls, st, zPH, h) = some (m, .ref a :: ar, rest, false) := by
  unfold zinv
  dsimp only
  rw [if_pos rfl, hm]
  dsimp only
  rw [if_pos ⟨hkd, hl⟩, h1]
  dsimp only
  rw [if_pos ⟨ha, hc⟩, h2]
theorem zinv_s (hm : zco0 zmtT (zo k) ix = some (kd, m)) (hkd : kd = 2 ∨ kd = 3) (hl : znp m ≤ st.length) (h1 : st.drop (znp m) = rest) (h2 : (st.take (znp m)).reverse = ar) (hc : zcat rest ≤ 8) : zinv k (.invokestatic ix) 3 (pc, ls, st, zPH, h) = some (m, ar, rest, false) := by
  unfold zinv
  dsimp only
  rw [if_pos rfl, hm]
  dsimp only
  rw [if_pos ⟨hkd, hl, by rw [h1]; exact hc⟩, h1, h2]
theorem zsim_iv {s : zS} : zsim X k (.invokevirtual ix) n s = none := by
  rw [zsq_iv]
  unfold zxAr
  split <;> rfl
theorem zsim_is {s : zS} (hb : zco0 zbiT (zo k) ix = none) : zsim X k (.invokestatic ix) n s = none := by
  rw [zsq_is]
  unfold zxMath
  split
  · rw [hb]
  · rfl
theorem zrtn_iv {s : zS} : zrtn k (.invokevirtual ix) n s = none := by
  obtain ⟨pc, ls, st, ph, hh⟩ := s
  unfold zrtn
  dsimp only
  split <;> rfl
theorem zrtn_is {s : zS} : zrtn k (.invokestatic ix) n s = none := by
  obtain ⟨pc, ls, st, ph, hh⟩ := s
  unfold zrtn
  dsimp only
  split <;> rfl
theorem zcI {f : Option Value → zH → Option (Option Value × zH)} (hr : zrt m = some .int ∨ zrt m = some .boolean) : zbd (zcf X m as h) f = zbI (zcf X m as h) fun v h' => f (some (.int v)) h' := by
  cases hz : zcf X m as h with
  | none => rfl
  | some x =>
    obtain ⟨v, hv⟩ := (zcf_ty hz).1 hr
    obtain ⟨y, h'⟩ := x
    dsimp only at hv
    subst hv
    rfl
theorem zcL {f : Option Value → zH → Option (Option Value × zH)} (hr : zrt m = some .long) : zbd (zcf X m as h) f = zbL (zcf X m as h) fun v h' => f (some (.long v)) h' := by
  cases hz : zcf X m as h with
  | none => rfl
  | some x =>
    obtain ⟨v, hv⟩ := (zcf_ty hz).2.1 hr
    obtain ⟨y, h'⟩ := x
    dsimp only at hv
    subst hv
    rfl
theorem zcV {f : Option Value → zH → Option (Option Value × zH)} (hr : zrt m = none) : zbd (zcf X m as h) f = zbV (zcf X m as h) fun h' => f none h' := by
  cases hz : zcf X m as h with
  | none => rfl
  | some x =>
    have hv := (zcf_ty hz).2.2.1 hr
    obtain ⟨y, h'⟩ := x
    dsimp only at hv
    subst hv
    rfl
theorem zcR {nm : String} {f : Option Value → zH → Option (Option Value × zH)} (hr : zrt m = some (.object nm)) : zbd (zcf X m as h) f = zbR (zcf X m as h) fun v h' => f (some (.ref v)) h' := by
  cases hz : zcf X m as h with
  | none => rfl
  | some x =>
    obtain ⟨v, hv⟩ := (zcf_ty hz).2.2.2 nm hr
    obtain ⟨y, h'⟩ := x
    dsimp only at hv
    subst hv
    rfl
theorem rn_vI (hd : decode (zb k) pc = .ok (.invokevirtual ix, 3)) (hi : zinv k (.invokevirtual ix) 3 (pc, ls, st, zPH, h) = some (m, as, rest, false)) (hk : zrk m as < r) (hr : zrt m = some .int ∨ zrt m = some .boolean) : zrn X r k pc ls st h = zbI (zcf X m as h) fun v h' => zrn X r k (pc + 3) ls (.int v :: rest) h' := (rn_c hd zsim_iv zrtn_iv hi hk).trans (zcI hr)
theorem rn_vL (hd : decode (zb k) pc = .ok (.invokevirtual ix, 3)) (hi : zinv k (.invokevirtual ix) 3 (pc, ls, st, zPH, h) = some (m, as, rest, false)) (hk : zrk m as < r) (hr : zrt m = some .long) : zrn X r k pc ls st h = zbL (zcf X m as h) fun v h' => zrn X r k (pc + 3) ls (.long v :: rest) h' := (rn_c hd zsim_iv zrtn_iv hi hk).trans (zcL hr)
theorem rn_vV (hd : decode (zb k) pc = .ok (.invokevirtual ix, 3)) (hi : zinv k (.invokevirtual ix) 3 (pc, ls, st, zPH, h) = some (m, as, rest, false)) (hk : zrk m as < r) (hr : zrt m = none) : zrn X r k pc ls st h = zbV (zcf X m as h) fun h' => zrn X r k (pc + 3) ls (rest) h' := (rn_c hd zsim_iv zrtn_iv hi hk).trans (zcV hr)
theorem rn_sI (hd : decode (zb k) pc = .ok (.invokestatic ix, 3)) (hb : zco0 zbiT (zo k) ix = none) (hi : zinv k (.invokestatic ix) 3 (pc, ls, st, zPH, h) = some (m, as, rest, false)) (hk : zrk m as < r) (hr : zrt m = some .int ∨ zrt m = some .boolean) : zrn X r k pc ls st h = zbI (zcf X m as h) fun v h' => zrn X r k (pc + 3) ls (.int v :: rest) h' := (rn_c hd (zsim_is hb) zrtn_is hi hk).trans (zcI hr)
theorem rn_sL (hd : decode (zb k) pc = .ok (.invokestatic ix, 3)) (hb : zco0 zbiT (zo k) ix = none) (hi : zinv k (.invokestatic ix) 3 (pc, ls, st, zPH, h) = some (m, as, rest, false)) (hk : zrk m as < r) (hr : zrt m = some .long) : zrn X r k pc ls st h = zbL (zcf X m as h) fun v h' => zrn X r k (pc + 3) ls (.long v :: rest) h' := (rn_c hd (zsim_is hb) zrtn_is hi hk).trans (zcL hr)
theorem rn_sV (hd : decode (zb k) pc = .ok (.invokestatic ix, 3)) (hb : zco0 zbiT (zo k) ix = none) (hi : zinv k (.invokestatic ix) 3 (pc, ls, st, zPH, h) = some (m, as, rest, false)) (hk : zrk m as < r) (hr : zrt m = none) : zrn X r k pc ls st h = zbV (zcf X m as h) fun h' => zrn X r k (pc + 3) ls (rest) h' := (rn_c hd (zsim_is hb) zrtn_is hi hk).trans (zcV hr)
end zrows
