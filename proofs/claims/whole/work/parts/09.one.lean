section zone
variable {p : Program} {l : Launch} {e : Env} {R : Room} {s : State} {m : MethodId} {args : Array Value} {below : List Frame} {meth : Method} {c : Code} {H : Heap} {locs : List Loc} {cells slots : Nat} {Q : State → Prop}
variable {b bs : Nat} {cI cH : ClassId} {D : va_G} {X : zX} {k : zM} {pc pc' len : Nat} {ls ls' : zL} {st st' : List Value} {ph ph' : zP} {h h' : zH} {Ls : Array Slot}
def zFx (p : Program) (s : State) (m : MethodId) (args : Array Value) (meth : Method) (c : Code) (b bs : Nat) (cI cH : ClassId) (D : va_G) (X : zX) (k : zM) : Prop :=
  p.tables.exec = Jvm.exec ∧ c.code = zb k ∧ c.maxLocals = zml k ∧ s.vm.findClass (zcn (zo k)) = some m.cls ∧ (∀ w ∈ zTs, w.before args s = true) ∧ ((zn k).name = "<init>" → meth.name = "<init>") ∧ va_K D zcls [(cI, .int), (cH, .object "SeenFromBehind$Hill")] s ∧ va_X b X.1 X.2 s s.heap ∧ b < bs ∧ bs ≤ s.heap.size
def zSt (s : State) (b bs : Nat) (cI cH : ClassId) (D : va_G) (nL : Nat) (ph : zP) (h : zH) (ls : zL) (H : Heap) (locs : List Loc) (Ls : Array Slot) : Prop :=
  va_P D zcls (zws b bs cI cH ph h) H ∧ H.size = bs + ph.1 ∧ ph.1 ≤ 140 ∧ va_S (fun q => bs ≤ q) s.heap H locs ∧ zLo b bs ls Ls nL
theorem zW0 {a d : Nat} {g : JFrame} (h : W p l e R s m args below meth c H locs (cells + (a - a)) (slots + (d - d)) Q g) : W p l e R s m args below meth c H locs cells slots Q g := by
  rw [Nat.sub_self, Nat.sub_self] at h
  exact h
theorem zgo_inv {t : Option Nat} {q : List Value} {s' : zS} (h : zgo t ls q ph h' = some s') : ∃ n, t = some n ∧ s' = (n, ls, q, ph, h') := by
  unfold zgo at h
  cases t with
  | none => cases h
  | some n => exact ⟨n, rfl, (Option.some.inj h).symm⟩
/-- how the goal goes on -/
def zKK (p : Program) (l : Launch) (e : Env) (R : Room) (s : State) (m : MethodId) (args : Array Value) (below : List Frame) (meth : Method) (c : Code) (cells slots : Nat) (Q : State → Prop) (b bs : Nat) (cI cH : ClassId) (D : va_G) (k : zM) (ph : zP) (s' : zS) : Prop :=
  ∀ H' locs' Ls', zSt s b bs cI cH D (zml k) s'.2.2.2.1 s'.2.2.2.2 s'.2.1 H' locs' Ls' → W p l e R s m args below meth c H' locs' (cells + (s'.2.2.2.1.1 - ph.1)) (slots + (zsl s'.2.2.2.1.1 - zsl ph.1)) Q (F0 m s'.1 Ls' (s'.2.2.1.map (zcv b bs)))
theorem zk_get {ix : Nat} {s' : zS} (F : zFx p s m args meth c b bs cI cH D X k) (S : zSt s b bs cI cH D (zml k) ph h ls H locs Ls) (hd : decode (zb k) pc = .ok (.getfield ix, len)) (hz : zxGet k ix len (pc, ls, st, ph, h) = some s') (kk : zKK p l e R s m args below meth c cells slots Q b bs cI cH D k ph s') : W p l e R s m args below meth c H locs cells slots Q (F0 m pc Ls (st.map (zcv b bs))) := by
  obtain ⟨hx, hb, hml, hown, hts, hnm, hK, hX, hbb, hbs⟩ := F
  obtain ⟨hP, hsz, h140, hS, hL⟩ := id S
  unfold zxGet at hz
  split at hz
  · rename_i pc1 ls1 a r p1 h1 heq
    cases heq
    by_cases hc : len = 3 ∧ zcl ph.1 a = (2 + (zfd (zo k) ix).1, zNf (zfd (zo k) ix).1)
    · rw [if_pos hc] at hz
      obtain ⟨rfl, hcl⟩ := hc
      have h7 : (zfd (zo k) ix).2.2 ≠ 7 := fun q => by rw [q] at hz; cases hz
      obtain ⟨f1, f2, f3, f4, f5⟩ := zfd_P h7
      dsimp only at f1 f2 f3 f4 f5
      obtain ⟨q, rfl, hq, hsh⟩ := zcl_pos (cn := ph.1) (a := a) (by rw [hcl]; intro z; have : 2 + (zfd (zo k) ix).1 = 9 := z; omega)
      rw [hcl] at hsh
      obtain ⟨g1, g2, g3, g4, g5, g6⟩ := zcP_ok _ f1
      have hw := zws_get (b := b) (bs := bs) (cI := cI) (cH := cH) (p := ph) (h := h) hq
      rw [zce_obj hsh] at hw
      have go : ∀ v : Value, zfv b bs ph h (q + 1) (zfd (zo k) ix).1 (zfd (zo k) ix).2.1 = zcv b bs v → W p l e R s m args below meth c H locs cells slots Q (F0 m (pc + 3) Ls (zcv b bs v :: r.map (zcv b bs))) → W p l e R s m args below meth c H locs cells slots Q (F0 m pc Ls ((Value.ref (q + 1) :: r).map (zcv b bs))) := fun v hv kv => by
        rcases f5 with f5 | ⟨f6, f5⟩
        · exact va_get (D := D) hx hb hts g1 hown hK hP q hw g6 _ f2 (hts _ f5) (fun x z => by rw [f4] at z; exact z) (zfs_get f2) hd (by rw [hv]; exact kv)
        · exact va_getN (D := D) hx hb hts g1 hown hK hP q hw g6 _ f2 (hts _ f5) (fun x z => by rw [f4] at z; exact z) (zfs_get f2) hd (by rw [hv]; exact kv)
      split at hz
      · rename_i hk
        cases hz
        refine go (.int _) (by unfold zfv; rw [f3, hk]; rfl) (zW0 (kk H locs Ls S))
      · rename_i hk
        cases hz
        refine go (.int _) (by unfold zfv; rw [f3, hk]; rfl) (zW0 (kk H locs Ls S))
      · rename_i hk
        cases hz
        refine go _ (by unfold zfv; rw [f3, hk]; rfl) (zW0 (kk H locs Ls S))
      · rename_i hk
        cases hz
        refine go _ (by unfold zfv; rw [f3, hk]; rfl) (zW0 (kk H locs Ls S))
      · cases hz
    · rw [if_neg hc] at hz; cases hz
  · cases hz
theorem zk_put {ix : Nat} {s' : zS} (F : zFx p s m args meth c b bs cI cH D X k) (S : zSt s b bs cI cH D (zml k) ph h ls H locs Ls) (hd : decode (zb k) pc = .ok (.putfield ix, len)) (hz : zxPut k ix len (pc, ls, st, ph, h) = some s') (kk : zKK p l e R s m args below meth c cells slots Q b bs cI cH D k ph s') : W p l e R s m args below meth c H locs cells slots Q (F0 m pc Ls (st.map (zcv b bs))) := by
  obtain ⟨hx, hb, hml, hown, hts, hnm, hK, hX, hbb, hbs⟩ := F
  obtain ⟨hP, hsz, h140, hS, hL⟩ := id S
  unfold zxPut at hz
  split at hz
  · rename_i pc1 ls1 v a r p1 h1 heq
    cases heq
    by_cases hc : len = 3 ∧ zcl ph.1 a = (2 + (zfd (zo k) ix).1, zNf (zfd (zo k) ix).1)
    · rw [if_pos hc] at hz
      obtain ⟨rfl, hcl⟩ := hc
      have h7 : (zfd (zo k) ix).2.2 ≠ 7 := fun q => by rw [q] at hz; cases v <;> cases hz
      obtain ⟨f1, f2, f3, f4, f5⟩ := zfd_P h7
      dsimp only at f1 f2 f3 f4 f5
      obtain ⟨q, rfl, hq, hsh⟩ := zcl_pos (cn := ph.1) (a := a) (by rw [hcl]; intro z; have : 2 + (zfd (zo k) ix).1 = 9 := z; omega)
      rw [hcl] at hsh
      obtain ⟨g1, g2, g3, g4, g5, g6⟩ := zcP_ok _ f1
      have k0 := zkind0 _ f1 _ f2
      have k1 := zkind1 _ f1 _ f2
      have k2 := zkind2 _ f1 _ f2
      have k3 := zkind3 _ f1 _ f2
      rw [f3] at k0 k1 k2 k3
      have hw := zws_get (b := b) (bs := bs) (cI := cI) (cH := cH) (p := ph) (h := h) hq
      rw [zce_obj hsh] at hw
      have go : ∀ (v : Value) (ph2 : zP) (h2 : zH), ph2.1 = ph.1 → (∀ i, i < ph.1 → i ≠ q → zce b bs cI cH ph2 h2 i = zce b bs cI cH ph h i) → (∀ i, i < zNf (zfd (zo k) ix).1 → zfv b bs ph2 h2 (q + 1) (zfd (zo k) ix).1 i = if i = (zfd (zo k) ix).2.1 then v else zfv b bs ph h (q + 1) (zfd (zo k) ix).1 i) → (∀ H1, va_P D zcls ((zws b bs cI cH ph h).set q (bs + q, .inr ((zfd (zo k) ix).1, (zfs b bs ph h (q + 1) (zfd (zo k) ix).1).set (zfd (zo k) ix).2.1 v))) H1 → va_P D zcls (zws b bs cI cH ph2 h2) H1) := fun v ph2 h2 e1 e2 e3 H1 z => by
        rw [zws_set (p' := ph2) (h' := h2) hq e1 e2] at z
        · exact z
        · rw [zce_obj hsh]
          congr 2
          refine List.ext_getElem? fun i => ?_
          by_cases hi : i < zNf (zfd (zo k) ix).1
          · rw [zfs_get hi, e3 i hi]
            by_cases hij : i = (zfd (zo k) ix).2.1
            · rw [if_pos hij, hij, List.getElem?_set_self (by rw [zfs_len]; exact f2)]
            · rw [if_neg hij, List.getElem?_set_ne (Ne.symm hij), zfs_get hi]
          · rw [List.getElem?_eq_none (by rw [zfs_len]; omega), List.getElem?_eq_none (by rw [List.length_set, zfs_len]; omega)]
      have hap := va_apart (own := zcn (zo k)) hts g1 (zTy (zfd (zo k) ix).1) g2 g3 hK g6
      obtain ⟨rr, r1, cell, r2, r3, r4, r5⟩ := hP q _ hw
      obtain rfl := Option.some.inj (r1.symm.trans g6)
      obtain ⟨hSl, hfc, kC, hkC, hkind⟩ := hK.1 _ _ g6
      obtain ⟨cf, kf, fi, f, hif, hsl⟩ := hSl _ f2
      have hst := (u_facts hfc hkC (u_lays hts g1 f2) hif).1
      have hlay := hts _ (g1 _ (u_in_lay f2))
      have hfd : s.fieldFound? (zcn (zfd (zo k) ix).1) (zF (zfd (zo k) ix).1 (zfd (zo k) ix).2.1).2.1 (zF (zfd (zo k) ix).1 (zfd (zo k) ix).2.1).2.2.1 = some (cf, kf, fi, f) := by rw [f4] at hif; exact hif
      have fin : ∀ (v : Value) (ph2 : zP) (h2 : zH), ph2.1 = ph.1 → (∀ i, i < ph.1 → i ≠ q → zce b bs cI cH ph2 h2 i = zce b bs cI cH ph h i) → (∀ i, i < zNf (zfd (zo k) ix).1 → zfv b bs ph2 h2 (q + 1) (zfd (zo k) ix).1 i = if i = (zfd (zo k) ix).2.1 then v else zfv b bs ph h (q + 1) (zfd (zo k) ix).1 i) → zKK p l e R s m args below meth c cells slots Q b bs cI cH D k ph (pc + 3, ls, r, ph2, h2) → ∀ H1 : Heap, H1[bs + q]? = some (cell.setSlot f.slot v) → H1.size = H.size → (∀ x, x ≠ bs + q → H1[x]? = H[x]?) → W p l e R s m args below meth c H1 (locs ++ [⟨bs + q, f.slot⟩]) cells slots Q (F0 m (pc + 3) Ls (r.map (zcv b bs))) := fun v ph2 h2 e1 e2 e3 kk H1 w1 w2 w3 => by
        rw [hsl] at w1 ⊢
        have w4 : va_P D zcls ((zws b bs cI cH ph h).set q (bs + q, .inr ((zfd (zo k) ix).1, (zfs b bs ph h (q + 1) (zfd (zo k) ix).1).set (zfd (zo k) ix).2.1 v))) H1 := hP.set zws_D hw ⟨_, g6, t_OB.to (V := updV (vp_V (zfs b bs ph h (q + 1) (zfd (zo k) ix).1)) (zfd (zo k) ix).2.1 v) ⟨_, w1, r3, r4, t_set r5 hap f2 v⟩ (fun j _ => vp_updV_set (by rw [zfs_len]; exact f2) v j)⟩ w3
        have := kk H1 (locs ++ [⟨bs + q, (D.2 (zfd (zo k) ix).1) (zfd (zo k) ix).2.1⟩]) Ls ⟨go v ph2 h2 e1 e2 e3 H1 w4, by rw [w2, hsz]; show _ = bs + ph2.1; rw [e1], by show ph2.1 ≤ 140; rw [e1]; exact h140, hS.put w2 w3 (Nat.le_add_right _ _), hL⟩
        dsimp only at this
        rw [e1] at this
        exact zW0 this
      have put : ∀ (v : Value) (ph2 : zP) (h2 : zH), (zF (zfd (zo k) ix).1 (zfd (zo k) ix).2.1).2.2.2 = false → narrow (zTy (zfd (zo k) ix).1 (zfd (zo k) ix).2.1) v = v ∧ fits (zTy (zfd (zo k) ix).1 (zfd (zo k) ix).2.1) v = true → ph2.1 = ph.1 → (∀ i, i < ph.1 → i ≠ q → zce b bs cI cH ph2 h2 i = zce b bs cI cH ph h i) → (∀ i, i < zNf (zfd (zo k) ix).1 → zfv b bs ph2 h2 (q + 1) (zfd (zo k) ix).1 i = if i = (zfd (zo k) ix).2.1 then v else zfv b bs ph h (q + 1) (zfd (zo k) ix).1 i) → zKK p l e R s m args below meth c cells slots Q b bs cI cH D k ph (pc + 3, ls, r, ph2, h2) → W p l e R s m args below meth c H locs cells slots Q (F0 m pc Ls (v :: Value.ref (bs + q) :: r.map (zcv b bs))) := fun v ph2 h2 hf hn e1 e2 e3 kk => by
        unfold u_lay at hlay
        rw [if_neg (by rw [hf]; decide)] at hlay
        have h6 := u_store hfc hkC hkind hlay hif (g2 _ f2) hn.1 hn.2
        rcases f5 with f5 | ⟨f6, f5⟩
        · exact W.putK hx hb (f := f) ⟨hown, hts _ f5, ⟨_, _, _, hfd⟩, hst⟩ (by rw [r3]; exact h6) r2 r4 (by rw [hsl]; exact k2_hasslot (r5 _ f2)) rfl rfl hd (fin v ph2 h2 e1 e2 e3 kk)
        · exact va_WputK hx hb (f := f) hown (hts _ f5) hfd hst (by rw [r3]; exact h6) r2 r4 (by rw [hsl]; exact k2_hasslot (r5 _ f2)) rfl rfl hd (fin v ph2 h2 e1 e2 e3 kk)
      have other : ∀ (x : Int32) (i : Nat), i < ph.1 → i ≠ q → zce b bs cI cH ph (zup h.1 (q + 1) (zfd (zo k) ix).2.1 x, h.2) i = zce b bs cI cH ph h i := fun x i _ hi => zce_ext (fun j => by show zup h.1 (q + 1) _ x (i + 1) j = _; unfold zup; rw [if_neg (by omega)]) (fun _ => rfl) (Or.inl rfl)
      have own : ∀ (x : Int32) (kd : Nat), (zfd (zo k) ix).2.2 = kd → ¬ kd = 2 → ¬ kd = 3 → ∀ i, i < zNf (zfd (zo k) ix).1 → zfv b bs ph (zup h.1 (q + 1) (zfd (zo k) ix).2.1 x, h.2) (q + 1) (zfd (zo k) ix).1 i = if i = (zfd (zo k) ix).2.1 then .int x else zfv b bs ph h (q + 1) (zfd (zo k) ix).1 i := fun x kd hk n2 n3 i hi => by
        by_cases hij : i = (zfd (zo k) ix).2.1
        · rw [if_pos hij, hij]
          unfold zfv
          rw [f3, hk]
          split
          · exact absurd rfl n2
          · exact absurd rfl n3
          · show Value.int (zup h.1 _ _ x _ _) = _
            unfold zup
            rw [if_pos ⟨rfl, rfl⟩]
        · rw [if_neg hij]
          unfold zfv
          split
          · rfl
          · rfl
          · show Value.int (zup h.1 _ _ x _ _) = _
            unfold zup
            rw [if_neg (fun z => hij z.2)]
      split at hz
      · rename_i x hk
        cases hz
        obtain ⟨t1, t2⟩ := k0 hk
        exact put (.int x) ph _ t2 (znar (Or.inl ⟨t1, x, rfl⟩)) rfl (other x) (own x 0 hk (by decide) (by decide)) kk
      · rename_i x hk
        by_cases hx01 : x = 0 ∨ x = 1
        · rw [if_pos hx01] at hz
          cases hz
          obtain ⟨t1, t2⟩ := k1 hk
          exact put (.int x) ph _ t2 (znar (Or.inr (Or.inl ⟨t1, by rcases hx01 with rfl | rfl; exact Or.inl rfl; exact Or.inr rfl⟩))) rfl (other x) (own x 1 hk (by decide) (by decide)) kk
        · rw [if_neg hx01] at hz; cases hz
      · rename_i y hk
        by_cases hn : (zn k).name = "<init>" ∧ (zfd (zo k) ix).1 = zo k
        · rw [if_pos hn] at hz
          cases hz
          obtain ⟨t1, t2⟩ := k2 hk
          unfold u_lay at hlay
          rw [if_pos t2] at hlay
          have hn2 := znar (ty := zTy (zfd (zo k) ix).1 (zfd (zo k) ix).2.1) (v := .ref (bs + y)) (Or.inr (Or.inr ⟨t1, _, rfl⟩))
          have hcf : m.cls = cf := by
            obtain ⟨_, _, c', _, _, _, -, -, hf', -, -, -, hown2, -⟩ := Cond.laysFinal_spec hlay
            have e1 : c' = cf := by have := hif.symm.trans hf'; simp at this; exact this.1.symm
            rw [f4, hn.2] at hown2
            rw [← e1]; exact Option.some.inj (hown.symm.trans hown2)
          have h6 := u_fits hfc hkC hkind (Or.inr hlay) hif (g2 _ f2) hn2.1 hn2.2
          rcases f5 with f5 | ⟨f6, f5⟩
          · refine W.putFinK hx hb hown (hts _ f5) hfd hst hcf (hnm hn.1) (by rw [r3]; exact h6) r2 r4 (by rw [hsl]; exact k2_hasslot (r5 _ f2)) rfl rfl hd (fin (.ref (bs + y)) (ph.1, (q + 1, (zfd (zo k) ix).2.1, y + 1) :: ph.2) h rfl ?_ ?_ kk)
            · intro i _ hi
              refine zce_ext (fun _ => rfl) (fun j => ?_) (Or.inl rfl)
              show (if q + 1 = i + 1 ∧ _ = j then _ else _) = _
              rw [if_neg (by omega)]
            · intro i hi
              by_cases hij : i = (zfd (zo k) ix).2.1
              · rw [if_pos hij, hij]
                unfold zfv
                rw [f3, hk]
                show zcv b bs (zrv (if q + 1 = q + 1 ∧ (zfd (zo k) ix).2.1 = (zfd (zo k) ix).2.1 then y + 1 else _)) = _
                rw [if_pos ⟨rfl, rfl⟩]
                rfl
              · rw [if_neg hij]
                unfold zfv
                split
                · show zcv b bs (zrv (if q + 1 = q + 1 ∧ (zfd (zo k) ix).2.1 = i then y + 1 else _)) = _
                  rw [if_neg (fun z => hij z.2.symm)]
                · rfl
                · rfl
          · rw [hk] at f6; cases f6
        · rw [if_neg hn] at hz; cases hz
      · rename_i y hk
        cases hz
        obtain ⟨t1, t2, t3⟩ := k3 hk
        have hq6 : ∀ i, i < ph.1 → i ≠ q → (zSH.getD i (9, 0)).1 ≠ 6 := fun i hi hne z => by
          have e1 := zSH_six i (by omega) z
          have e2 := zSH_six q (by omega) (by rw [hsh, t3])
          omega
        refine put (.ref (bs + y)) ph (h.1, y + 1) t2 (znar (Or.inr (Or.inr ⟨t1, _, rfl⟩))) rfl (fun i hi hne => zce_ext (fun _ => rfl) (fun _ => rfl) (Or.inr (hq6 i hi hne))) (fun i hi => ?_) kk
        by_cases hij : i = (zfd (zo k) ix).2.1
        · rw [if_pos hij, hij]
          unfold zfv
          rw [f3, hk]
          rfl
        · rw [if_neg hij]
          unfold zfv
          split
          · rfl
          · rename_i hk3
            exact absurd (zkind3u _ f1 _ hi _ f2 hk3 (by rw [f3]; exact hk)) hij
          · rfl
      · cases hz
    · rw [if_neg hc] at hz; cases hz
  · cases hz
end zone
