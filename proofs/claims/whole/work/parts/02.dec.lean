/-! decode, by the bytes: a lemma an opcode, once -/
def zB (c : ByteArray) (p : Nat) : Option Nat := if h : p < c.size then some (c[p]).toNat else none
theorem zrb {α β : Type} (x : Decoder α) (f : α → Decoder β) (c : ByteArray) (p : Nat) : Reader.runAt (x >>= f) c p = match Reader.runAt x c p with | .ok (a, q) => Reader.runAt (f a) c q | .error e => .error e := by
  show (Reader.runAt x c p).bind _ = _
  cases Reader.runAt x c p <;> rfl
theorem zu1 {c : ByteArray} {p b : Nat} (h : zB c p = some b) : Reader.runAt (Reader.u1 : Decoder Nat) c p = .ok (b, p + 1) := by
  unfold zB at h
  by_cases hp : p < c.size
  · rw [dif_pos hp] at h
    have hb := Option.some.inj h
    show (if h : p < c.size then _ else _ : Decoder Nat) c p = _
    rw [dif_pos hp]
    show Except.ok (_, _) = _
    rw [hb]
  · rw [dif_neg hp] at h
    cases h
theorem zu2 {c : ByteArray} {p a b : Nat} (h : zB c p = some a) (h1 : zB c (p + 1) = some b) : Reader.runAt (Reader.u2 : Decoder Nat) c p = .ok (a * 256 + b, p + 2) := by
  unfold Reader.u2
  rw [zrb, zu1 h]
  show Reader.runAt (_ >>= _) c (p + 1) = _
  rw [zrb, zu1 h1]
  rfl
theorem zs1 {c : ByteArray} {p a : Nat} (h : zB c p = some a) : Reader.runAt (Reader.s1 : Decoder Int) c p = .ok (Reader.signed 8 a, p + 1) := by
  unfold Reader.s1
  show Reader.runAt (Reader.u1 >>= fun x => pure (Reader.signed 8 x)) c p = _
  rw [zrb, zu1 h]
  rfl
theorem zs2 {c : ByteArray} {p a b : Nat} (h : zB c p = some a) (h1 : zB c (p + 1) = some b) : Reader.runAt (Reader.s2 : Decoder Int) c p = .ok (Reader.signed 16 (a * 256 + b), p + 2) := by
  unfold Reader.s2
  show Reader.runAt (Reader.u2 >>= fun x => pure (Reader.signed 16 x)) c p = _
  rw [zrb, zu2 h h1]
  rfl
theorem zdec {c : ByteArray} {p q : Nat} {i : Instr} (h : Reader.runAt (Decoder.instr p) c p = .ok (i, q)) {n : Nat} (hn : q - p = n) : decode c p = .ok (i, n) := by
  unfold decode
  rw [h]
  show Except.ok (i, q - p) = _
  rw [hn]

theorem zd_1 {c : ByteArray} {p : Nat} (h : zB c p = some 1) : decode c p = .ok (.aconst_null, 1) := zdec (q := p + 1) (by unfold Decoder.instr; rw [zrb, zu1 h]; rfl) (by omega)
theorem zd_2 {c : ByteArray} {p : Nat} (h : zB c p = some 2) : decode c p = .ok (.iconst (-1), 1) := zdec (q := p + 1) (by unfold Decoder.instr; rw [zrb, zu1 h]; rfl) (by omega)
theorem zd_3 {c : ByteArray} {p : Nat} (h : zB c p = some 3) : decode c p = .ok (.iconst 0, 1) := zdec (q := p + 1) (by unfold Decoder.instr; rw [zrb, zu1 h]; rfl) (by omega)
theorem zd_4 {c : ByteArray} {p : Nat} (h : zB c p = some 4) : decode c p = .ok (.iconst 1, 1) := zdec (q := p + 1) (by unfold Decoder.instr; rw [zrb, zu1 h]; rfl) (by omega)
theorem zd_5 {c : ByteArray} {p : Nat} (h : zB c p = some 5) : decode c p = .ok (.iconst 2, 1) := zdec (q := p + 1) (by unfold Decoder.instr; rw [zrb, zu1 h]; rfl) (by omega)
theorem zd_6 {c : ByteArray} {p : Nat} (h : zB c p = some 6) : decode c p = .ok (.iconst 3, 1) := zdec (q := p + 1) (by unfold Decoder.instr; rw [zrb, zu1 h]; rfl) (by omega)
theorem zd_7 {c : ByteArray} {p : Nat} (h : zB c p = some 7) : decode c p = .ok (.iconst 4, 1) := zdec (q := p + 1) (by unfold Decoder.instr; rw [zrb, zu1 h]; rfl) (by omega)
theorem zd_8 {c : ByteArray} {p : Nat} (h : zB c p = some 8) : decode c p = .ok (.iconst 5, 1) := zdec (q := p + 1) (by unfold Decoder.instr; rw [zrb, zu1 h]; rfl) (by omega)
theorem zd_9 {c : ByteArray} {p : Nat} (h : zB c p = some 9) : decode c p = .ok (.lconst 0, 1) := zdec (q := p + 1) (by unfold Decoder.instr; rw [zrb, zu1 h]; rfl) (by omega)
theorem zd_10 {c : ByteArray} {p : Nat} (h : zB c p = some 10) : decode c p = .ok (.lconst 1, 1) := zdec (q := p + 1) (by unfold Decoder.instr; rw [zrb, zu1 h]; rfl) (by omega)
theorem zd_26 {c : ByteArray} {p : Nat} (h : zB c p = some 26) : decode c p = .ok (.iload_n 0, 1) := zdec (q := p + 1) (by unfold Decoder.instr; rw [zrb, zu1 h]; rfl) (by omega)
theorem zd_27 {c : ByteArray} {p : Nat} (h : zB c p = some 27) : decode c p = .ok (.iload_n 1, 1) := zdec (q := p + 1) (by unfold Decoder.instr; rw [zrb, zu1 h]; rfl) (by omega)
theorem zd_28 {c : ByteArray} {p : Nat} (h : zB c p = some 28) : decode c p = .ok (.iload_n 2, 1) := zdec (q := p + 1) (by unfold Decoder.instr; rw [zrb, zu1 h]; rfl) (by omega)
theorem zd_29 {c : ByteArray} {p : Nat} (h : zB c p = some 29) : decode c p = .ok (.iload_n 3, 1) := zdec (q := p + 1) (by unfold Decoder.instr; rw [zrb, zu1 h]; rfl) (by omega)
theorem zd_30 {c : ByteArray} {p : Nat} (h : zB c p = some 30) : decode c p = .ok (.lload_n 0, 1) := zdec (q := p + 1) (by unfold Decoder.instr; rw [zrb, zu1 h]; rfl) (by omega)
theorem zd_31 {c : ByteArray} {p : Nat} (h : zB c p = some 31) : decode c p = .ok (.lload_n 1, 1) := zdec (q := p + 1) (by unfold Decoder.instr; rw [zrb, zu1 h]; rfl) (by omega)
theorem zd_32 {c : ByteArray} {p : Nat} (h : zB c p = some 32) : decode c p = .ok (.lload_n 2, 1) := zdec (q := p + 1) (by unfold Decoder.instr; rw [zrb, zu1 h]; rfl) (by omega)
theorem zd_33 {c : ByteArray} {p : Nat} (h : zB c p = some 33) : decode c p = .ok (.lload_n 3, 1) := zdec (q := p + 1) (by unfold Decoder.instr; rw [zrb, zu1 h]; rfl) (by omega)
theorem zd_42 {c : ByteArray} {p : Nat} (h : zB c p = some 42) : decode c p = .ok (.aload_n 0, 1) := zdec (q := p + 1) (by unfold Decoder.instr; rw [zrb, zu1 h]; rfl) (by omega)
theorem zd_43 {c : ByteArray} {p : Nat} (h : zB c p = some 43) : decode c p = .ok (.aload_n 1, 1) := zdec (q := p + 1) (by unfold Decoder.instr; rw [zrb, zu1 h]; rfl) (by omega)
theorem zd_44 {c : ByteArray} {p : Nat} (h : zB c p = some 44) : decode c p = .ok (.aload_n 2, 1) := zdec (q := p + 1) (by unfold Decoder.instr; rw [zrb, zu1 h]; rfl) (by omega)
theorem zd_45 {c : ByteArray} {p : Nat} (h : zB c p = some 45) : decode c p = .ok (.aload_n 3, 1) := zdec (q := p + 1) (by unfold Decoder.instr; rw [zrb, zu1 h]; rfl) (by omega)
theorem zd_46 {c : ByteArray} {p : Nat} (h : zB c p = some 46) : decode c p = .ok (.iaload, 1) := zdec (q := p + 1) (by unfold Decoder.instr; rw [zrb, zu1 h]; rfl) (by omega)
theorem zd_50 {c : ByteArray} {p : Nat} (h : zB c p = some 50) : decode c p = .ok (.aaload, 1) := zdec (q := p + 1) (by unfold Decoder.instr; rw [zrb, zu1 h]; rfl) (by omega)
theorem zd_59 {c : ByteArray} {p : Nat} (h : zB c p = some 59) : decode c p = .ok (.istore_n 0, 1) := zdec (q := p + 1) (by unfold Decoder.instr; rw [zrb, zu1 h]; rfl) (by omega)
theorem zd_60 {c : ByteArray} {p : Nat} (h : zB c p = some 60) : decode c p = .ok (.istore_n 1, 1) := zdec (q := p + 1) (by unfold Decoder.instr; rw [zrb, zu1 h]; rfl) (by omega)
theorem zd_61 {c : ByteArray} {p : Nat} (h : zB c p = some 61) : decode c p = .ok (.istore_n 2, 1) := zdec (q := p + 1) (by unfold Decoder.instr; rw [zrb, zu1 h]; rfl) (by omega)
theorem zd_62 {c : ByteArray} {p : Nat} (h : zB c p = some 62) : decode c p = .ok (.istore_n 3, 1) := zdec (q := p + 1) (by unfold Decoder.instr; rw [zrb, zu1 h]; rfl) (by omega)
theorem zd_63 {c : ByteArray} {p : Nat} (h : zB c p = some 63) : decode c p = .ok (.lstore_n 0, 1) := zdec (q := p + 1) (by unfold Decoder.instr; rw [zrb, zu1 h]; rfl) (by omega)
theorem zd_64 {c : ByteArray} {p : Nat} (h : zB c p = some 64) : decode c p = .ok (.lstore_n 1, 1) := zdec (q := p + 1) (by unfold Decoder.instr; rw [zrb, zu1 h]; rfl) (by omega)
theorem zd_65 {c : ByteArray} {p : Nat} (h : zB c p = some 65) : decode c p = .ok (.lstore_n 2, 1) := zdec (q := p + 1) (by unfold Decoder.instr; rw [zrb, zu1 h]; rfl) (by omega)
theorem zd_66 {c : ByteArray} {p : Nat} (h : zB c p = some 66) : decode c p = .ok (.lstore_n 3, 1) := zdec (q := p + 1) (by unfold Decoder.instr; rw [zrb, zu1 h]; rfl) (by omega)
theorem zd_75 {c : ByteArray} {p : Nat} (h : zB c p = some 75) : decode c p = .ok (.astore_n 0, 1) := zdec (q := p + 1) (by unfold Decoder.instr; rw [zrb, zu1 h]; rfl) (by omega)
theorem zd_76 {c : ByteArray} {p : Nat} (h : zB c p = some 76) : decode c p = .ok (.astore_n 1, 1) := zdec (q := p + 1) (by unfold Decoder.instr; rw [zrb, zu1 h]; rfl) (by omega)
theorem zd_77 {c : ByteArray} {p : Nat} (h : zB c p = some 77) : decode c p = .ok (.astore_n 2, 1) := zdec (q := p + 1) (by unfold Decoder.instr; rw [zrb, zu1 h]; rfl) (by omega)
theorem zd_78 {c : ByteArray} {p : Nat} (h : zB c p = some 78) : decode c p = .ok (.astore_n 3, 1) := zdec (q := p + 1) (by unfold Decoder.instr; rw [zrb, zu1 h]; rfl) (by omega)
theorem zd_79 {c : ByteArray} {p : Nat} (h : zB c p = some 79) : decode c p = .ok (.iastore, 1) := zdec (q := p + 1) (by unfold Decoder.instr; rw [zrb, zu1 h]; rfl) (by omega)
theorem zd_83 {c : ByteArray} {p : Nat} (h : zB c p = some 83) : decode c p = .ok (.aastore, 1) := zdec (q := p + 1) (by unfold Decoder.instr; rw [zrb, zu1 h]; rfl) (by omega)
theorem zd_87 {c : ByteArray} {p : Nat} (h : zB c p = some 87) : decode c p = .ok (.pop, 1) := zdec (q := p + 1) (by unfold Decoder.instr; rw [zrb, zu1 h]; rfl) (by omega)
theorem zd_89 {c : ByteArray} {p : Nat} (h : zB c p = some 89) : decode c p = .ok (.dup, 1) := zdec (q := p + 1) (by unfold Decoder.instr; rw [zrb, zu1 h]; rfl) (by omega)
theorem zd_92 {c : ByteArray} {p : Nat} (h : zB c p = some 92) : decode c p = .ok (.dup2, 1) := zdec (q := p + 1) (by unfold Decoder.instr; rw [zrb, zu1 h]; rfl) (by omega)
theorem zd_96 {c : ByteArray} {p : Nat} (h : zB c p = some 96) : decode c p = .ok (.iadd, 1) := zdec (q := p + 1) (by unfold Decoder.instr; rw [zrb, zu1 h]; rfl) (by omega)
theorem zd_97 {c : ByteArray} {p : Nat} (h : zB c p = some 97) : decode c p = .ok (.ladd, 1) := zdec (q := p + 1) (by unfold Decoder.instr; rw [zrb, zu1 h]; rfl) (by omega)
theorem zd_100 {c : ByteArray} {p : Nat} (h : zB c p = some 100) : decode c p = .ok (.isub, 1) := zdec (q := p + 1) (by unfold Decoder.instr; rw [zrb, zu1 h]; rfl) (by omega)
theorem zd_101 {c : ByteArray} {p : Nat} (h : zB c p = some 101) : decode c p = .ok (.lsub, 1) := zdec (q := p + 1) (by unfold Decoder.instr; rw [zrb, zu1 h]; rfl) (by omega)
theorem zd_104 {c : ByteArray} {p : Nat} (h : zB c p = some 104) : decode c p = .ok (.imul, 1) := zdec (q := p + 1) (by unfold Decoder.instr; rw [zrb, zu1 h]; rfl) (by omega)
theorem zd_105 {c : ByteArray} {p : Nat} (h : zB c p = some 105) : decode c p = .ok (.lmul, 1) := zdec (q := p + 1) (by unfold Decoder.instr; rw [zrb, zu1 h]; rfl) (by omega)
theorem zd_108 {c : ByteArray} {p : Nat} (h : zB c p = some 108) : decode c p = .ok (.idiv, 1) := zdec (q := p + 1) (by unfold Decoder.instr; rw [zrb, zu1 h]; rfl) (by omega)
theorem zd_109 {c : ByteArray} {p : Nat} (h : zB c p = some 109) : decode c p = .ok (.ldiv, 1) := zdec (q := p + 1) (by unfold Decoder.instr; rw [zrb, zu1 h]; rfl) (by omega)
theorem zd_112 {c : ByteArray} {p : Nat} (h : zB c p = some 112) : decode c p = .ok (.irem, 1) := zdec (q := p + 1) (by unfold Decoder.instr; rw [zrb, zu1 h]; rfl) (by omega)
theorem zd_113 {c : ByteArray} {p : Nat} (h : zB c p = some 113) : decode c p = .ok (.lrem, 1) := zdec (q := p + 1) (by unfold Decoder.instr; rw [zrb, zu1 h]; rfl) (by omega)
theorem zd_116 {c : ByteArray} {p : Nat} (h : zB c p = some 116) : decode c p = .ok (.ineg, 1) := zdec (q := p + 1) (by unfold Decoder.instr; rw [zrb, zu1 h]; rfl) (by omega)
theorem zd_120 {c : ByteArray} {p : Nat} (h : zB c p = some 120) : decode c p = .ok (.ishl, 1) := zdec (q := p + 1) (by unfold Decoder.instr; rw [zrb, zu1 h]; rfl) (by omega)
theorem zd_122 {c : ByteArray} {p : Nat} (h : zB c p = some 122) : decode c p = .ok (.ishr, 1) := zdec (q := p + 1) (by unfold Decoder.instr; rw [zrb, zu1 h]; rfl) (by omega)
theorem zd_124 {c : ByteArray} {p : Nat} (h : zB c p = some 124) : decode c p = .ok (.iushr, 1) := zdec (q := p + 1) (by unfold Decoder.instr; rw [zrb, zu1 h]; rfl) (by omega)
theorem zd_126 {c : ByteArray} {p : Nat} (h : zB c p = some 126) : decode c p = .ok (.iand, 1) := zdec (q := p + 1) (by unfold Decoder.instr; rw [zrb, zu1 h]; rfl) (by omega)
theorem zd_128 {c : ByteArray} {p : Nat} (h : zB c p = some 128) : decode c p = .ok (.ior, 1) := zdec (q := p + 1) (by unfold Decoder.instr; rw [zrb, zu1 h]; rfl) (by omega)
theorem zd_130 {c : ByteArray} {p : Nat} (h : zB c p = some 130) : decode c p = .ok (.ixor, 1) := zdec (q := p + 1) (by unfold Decoder.instr; rw [zrb, zu1 h]; rfl) (by omega)
theorem zd_133 {c : ByteArray} {p : Nat} (h : zB c p = some 133) : decode c p = .ok (.i2l, 1) := zdec (q := p + 1) (by unfold Decoder.instr; rw [zrb, zu1 h]; rfl) (by omega)
theorem zd_148 {c : ByteArray} {p : Nat} (h : zB c p = some 148) : decode c p = .ok (.lcmp, 1) := zdec (q := p + 1) (by unfold Decoder.instr; rw [zrb, zu1 h]; rfl) (by omega)
theorem zd_172 {c : ByteArray} {p : Nat} (h : zB c p = some 172) : decode c p = .ok (.ireturn, 1) := zdec (q := p + 1) (by unfold Decoder.instr; rw [zrb, zu1 h]; rfl) (by omega)
theorem zd_173 {c : ByteArray} {p : Nat} (h : zB c p = some 173) : decode c p = .ok (.lreturn, 1) := zdec (q := p + 1) (by unfold Decoder.instr; rw [zrb, zu1 h]; rfl) (by omega)
theorem zd_176 {c : ByteArray} {p : Nat} (h : zB c p = some 176) : decode c p = .ok (.areturn, 1) := zdec (q := p + 1) (by unfold Decoder.instr; rw [zrb, zu1 h]; rfl) (by omega)
theorem zd_177 {c : ByteArray} {p : Nat} (h : zB c p = some 177) : decode c p = .ok (.return_, 1) := zdec (q := p + 1) (by unfold Decoder.instr; rw [zrb, zu1 h]; rfl) (by omega)
theorem zd_190 {c : ByteArray} {p : Nat} (h : zB c p = some 190) : decode c p = .ok (.arraylength, 1) := zdec (q := p + 1) (by unfold Decoder.instr; rw [zrb, zu1 h]; rfl) (by omega)
theorem zd_18 {c : ByteArray} {p a : Nat} (h : zB c p = some 18) (h1 : zB c (p + 1) = some a) : decode c p = .ok (.ldc a, 2) := zdec (q := p + 2) (by unfold Decoder.instr; rw [zrb, zu1 h]; show Reader.runAt (_ >>= _) c (p + 1) = _; rw [zrb, zu1 h1]; rfl) (by omega)
theorem zd_21 {c : ByteArray} {p a : Nat} (h : zB c p = some 21) (h1 : zB c (p + 1) = some a) : decode c p = .ok (.iload a, 2) := zdec (q := p + 2) (by unfold Decoder.instr; rw [zrb, zu1 h]; show Reader.runAt (_ >>= _) c (p + 1) = _; rw [zrb, zu1 h1]; rfl) (by omega)
theorem zd_22 {c : ByteArray} {p a : Nat} (h : zB c p = some 22) (h1 : zB c (p + 1) = some a) : decode c p = .ok (.lload a, 2) := zdec (q := p + 2) (by unfold Decoder.instr; rw [zrb, zu1 h]; show Reader.runAt (_ >>= _) c (p + 1) = _; rw [zrb, zu1 h1]; rfl) (by omega)
theorem zd_25 {c : ByteArray} {p a : Nat} (h : zB c p = some 25) (h1 : zB c (p + 1) = some a) : decode c p = .ok (.aload a, 2) := zdec (q := p + 2) (by unfold Decoder.instr; rw [zrb, zu1 h]; show Reader.runAt (_ >>= _) c (p + 1) = _; rw [zrb, zu1 h1]; rfl) (by omega)
theorem zd_54 {c : ByteArray} {p a : Nat} (h : zB c p = some 54) (h1 : zB c (p + 1) = some a) : decode c p = .ok (.istore a, 2) := zdec (q := p + 2) (by unfold Decoder.instr; rw [zrb, zu1 h]; show Reader.runAt (_ >>= _) c (p + 1) = _; rw [zrb, zu1 h1]; rfl) (by omega)
theorem zd_55 {c : ByteArray} {p a : Nat} (h : zB c p = some 55) (h1 : zB c (p + 1) = some a) : decode c p = .ok (.lstore a, 2) := zdec (q := p + 2) (by unfold Decoder.instr; rw [zrb, zu1 h]; show Reader.runAt (_ >>= _) c (p + 1) = _; rw [zrb, zu1 h1]; rfl) (by omega)
theorem zd_58 {c : ByteArray} {p a : Nat} (h : zB c p = some 58) (h1 : zB c (p + 1) = some a) : decode c p = .ok (.astore a, 2) := zdec (q := p + 2) (by unfold Decoder.instr; rw [zrb, zu1 h]; show Reader.runAt (_ >>= _) c (p + 1) = _; rw [zrb, zu1 h1]; rfl) (by omega)
theorem zd_16 {c : ByteArray} {p a : Nat} (h : zB c p = some 16) (h1 : zB c (p + 1) = some a) : decode c p = .ok (.bipush (Reader.signed 8 a), 2) := zdec (q := p + 2) (by unfold Decoder.instr; rw [zrb, zu1 h]; show Reader.runAt (_ >>= _) c (p + 1) = _; rw [zrb, zs1 h1]; rfl) (by omega)
theorem zd_188 {c : ByteArray} {p : Nat} (h : zB c p = some 188) (h1 : zB c (p + 1) = some 10) : decode c p = .ok (.newarray .int, 2) := zdec (q := p + 2) (by unfold Decoder.instr; rw [zrb, zu1 h]; show Reader.runAt (Decoder.newarray p) c (p + 1) = _; unfold Decoder.newarray; rw [zrb, zu1 h1]; rfl) (by omega)
theorem zd_19 {c : ByteArray} {p a a2 : Nat} (h : zB c p = some 19) (h1 : zB c (p + 1) = some a) (h2 : zB c (p + 1 + 1) = some a2) : decode c p = .ok (.ldc_w (a * 256 + a2), 3) := zdec (q := p + 3) (by unfold Decoder.instr; rw [zrb, zu1 h]; show Reader.runAt (_ >>= _) c (p + 1) = _; rw [zrb, zu2 h1 h2]; rfl) (by omega)
theorem zd_20 {c : ByteArray} {p a a2 : Nat} (h : zB c p = some 20) (h1 : zB c (p + 1) = some a) (h2 : zB c (p + 1 + 1) = some a2) : decode c p = .ok (.ldc2_w (a * 256 + a2), 3) := zdec (q := p + 3) (by unfold Decoder.instr; rw [zrb, zu1 h]; show Reader.runAt (_ >>= _) c (p + 1) = _; rw [zrb, zu2 h1 h2]; rfl) (by omega)
theorem zd_180 {c : ByteArray} {p a a2 : Nat} (h : zB c p = some 180) (h1 : zB c (p + 1) = some a) (h2 : zB c (p + 1 + 1) = some a2) : decode c p = .ok (.getfield (a * 256 + a2), 3) := zdec (q := p + 3) (by unfold Decoder.instr; rw [zrb, zu1 h]; show Reader.runAt (_ >>= _) c (p + 1) = _; rw [zrb, zu2 h1 h2]; rfl) (by omega)
theorem zd_181 {c : ByteArray} {p a a2 : Nat} (h : zB c p = some 181) (h1 : zB c (p + 1) = some a) (h2 : zB c (p + 1 + 1) = some a2) : decode c p = .ok (.putfield (a * 256 + a2), 3) := zdec (q := p + 3) (by unfold Decoder.instr; rw [zrb, zu1 h]; show Reader.runAt (_ >>= _) c (p + 1) = _; rw [zrb, zu2 h1 h2]; rfl) (by omega)
theorem zd_182 {c : ByteArray} {p a a2 : Nat} (h : zB c p = some 182) (h1 : zB c (p + 1) = some a) (h2 : zB c (p + 1 + 1) = some a2) : decode c p = .ok (.invokevirtual (a * 256 + a2), 3) := zdec (q := p + 3) (by unfold Decoder.instr; rw [zrb, zu1 h]; show Reader.runAt (_ >>= _) c (p + 1) = _; rw [zrb, zu2 h1 h2]; rfl) (by omega)
theorem zd_183 {c : ByteArray} {p a a2 : Nat} (h : zB c p = some 183) (h1 : zB c (p + 1) = some a) (h2 : zB c (p + 1 + 1) = some a2) : decode c p = .ok (.invokespecial (a * 256 + a2), 3) := zdec (q := p + 3) (by unfold Decoder.instr; rw [zrb, zu1 h]; show Reader.runAt (_ >>= _) c (p + 1) = _; rw [zrb, zu2 h1 h2]; rfl) (by omega)
theorem zd_184 {c : ByteArray} {p a a2 : Nat} (h : zB c p = some 184) (h1 : zB c (p + 1) = some a) (h2 : zB c (p + 1 + 1) = some a2) : decode c p = .ok (.invokestatic (a * 256 + a2), 3) := zdec (q := p + 3) (by unfold Decoder.instr; rw [zrb, zu1 h]; show Reader.runAt (_ >>= _) c (p + 1) = _; rw [zrb, zu2 h1 h2]; rfl) (by omega)
theorem zd_187 {c : ByteArray} {p a a2 : Nat} (h : zB c p = some 187) (h1 : zB c (p + 1) = some a) (h2 : zB c (p + 1 + 1) = some a2) : decode c p = .ok (.new (a * 256 + a2), 3) := zdec (q := p + 3) (by unfold Decoder.instr; rw [zrb, zu1 h]; show Reader.runAt (_ >>= _) c (p + 1) = _; rw [zrb, zu2 h1 h2]; rfl) (by omega)
theorem zd_189 {c : ByteArray} {p a a2 : Nat} (h : zB c p = some 189) (h1 : zB c (p + 1) = some a) (h2 : zB c (p + 1 + 1) = some a2) : decode c p = .ok (.anewarray (a * 256 + a2), 3) := zdec (q := p + 3) (by unfold Decoder.instr; rw [zrb, zu1 h]; show Reader.runAt (_ >>= _) c (p + 1) = _; rw [zrb, zu2 h1 h2]; rfl) (by omega)
theorem zd_17 {c : ByteArray} {p a a2 : Nat} (h : zB c p = some 17) (h1 : zB c (p + 1) = some a) (h2 : zB c (p + 1 + 1) = some a2) : decode c p = .ok (.sipush (Reader.signed 16 (a * 256 + a2)), 3) := zdec (q := p + 3) (by unfold Decoder.instr; rw [zrb, zu1 h]; show Reader.runAt (_ >>= _) c (p + 1) = _; rw [zrb, zs2 h1 h2]; rfl) (by omega)
theorem zd_153 {c : ByteArray} {p a a2 : Nat} (h : zB c p = some 153) (h1 : zB c (p + 1) = some a) (h2 : zB c (p + 1 + 1) = some a2) : decode c p = .ok (.ifCond .eq (Reader.signed 16 (a * 256 + a2)), 3) := zdec (q := p + 3) (by unfold Decoder.instr; rw [zrb, zu1 h]; show Reader.runAt (_ >>= _) c (p + 1) = _; rw [zrb, zs2 h1 h2]; rfl) (by omega)
theorem zd_154 {c : ByteArray} {p a a2 : Nat} (h : zB c p = some 154) (h1 : zB c (p + 1) = some a) (h2 : zB c (p + 1 + 1) = some a2) : decode c p = .ok (.ifCond .ne (Reader.signed 16 (a * 256 + a2)), 3) := zdec (q := p + 3) (by unfold Decoder.instr; rw [zrb, zu1 h]; show Reader.runAt (_ >>= _) c (p + 1) = _; rw [zrb, zs2 h1 h2]; rfl) (by omega)
theorem zd_155 {c : ByteArray} {p a a2 : Nat} (h : zB c p = some 155) (h1 : zB c (p + 1) = some a) (h2 : zB c (p + 1 + 1) = some a2) : decode c p = .ok (.ifCond .lt (Reader.signed 16 (a * 256 + a2)), 3) := zdec (q := p + 3) (by unfold Decoder.instr; rw [zrb, zu1 h]; show Reader.runAt (_ >>= _) c (p + 1) = _; rw [zrb, zs2 h1 h2]; rfl) (by omega)
theorem zd_156 {c : ByteArray} {p a a2 : Nat} (h : zB c p = some 156) (h1 : zB c (p + 1) = some a) (h2 : zB c (p + 1 + 1) = some a2) : decode c p = .ok (.ifCond .ge (Reader.signed 16 (a * 256 + a2)), 3) := zdec (q := p + 3) (by unfold Decoder.instr; rw [zrb, zu1 h]; show Reader.runAt (_ >>= _) c (p + 1) = _; rw [zrb, zs2 h1 h2]; rfl) (by omega)
theorem zd_157 {c : ByteArray} {p a a2 : Nat} (h : zB c p = some 157) (h1 : zB c (p + 1) = some a) (h2 : zB c (p + 1 + 1) = some a2) : decode c p = .ok (.ifCond .gt (Reader.signed 16 (a * 256 + a2)), 3) := zdec (q := p + 3) (by unfold Decoder.instr; rw [zrb, zu1 h]; show Reader.runAt (_ >>= _) c (p + 1) = _; rw [zrb, zs2 h1 h2]; rfl) (by omega)
theorem zd_158 {c : ByteArray} {p a a2 : Nat} (h : zB c p = some 158) (h1 : zB c (p + 1) = some a) (h2 : zB c (p + 1 + 1) = some a2) : decode c p = .ok (.ifCond .le (Reader.signed 16 (a * 256 + a2)), 3) := zdec (q := p + 3) (by unfold Decoder.instr; rw [zrb, zu1 h]; show Reader.runAt (_ >>= _) c (p + 1) = _; rw [zrb, zs2 h1 h2]; rfl) (by omega)
theorem zd_159 {c : ByteArray} {p a a2 : Nat} (h : zB c p = some 159) (h1 : zB c (p + 1) = some a) (h2 : zB c (p + 1 + 1) = some a2) : decode c p = .ok (.if_icmp .eq (Reader.signed 16 (a * 256 + a2)), 3) := zdec (q := p + 3) (by unfold Decoder.instr; rw [zrb, zu1 h]; show Reader.runAt (_ >>= _) c (p + 1) = _; rw [zrb, zs2 h1 h2]; rfl) (by omega)
theorem zd_160 {c : ByteArray} {p a a2 : Nat} (h : zB c p = some 160) (h1 : zB c (p + 1) = some a) (h2 : zB c (p + 1 + 1) = some a2) : decode c p = .ok (.if_icmp .ne (Reader.signed 16 (a * 256 + a2)), 3) := zdec (q := p + 3) (by unfold Decoder.instr; rw [zrb, zu1 h]; show Reader.runAt (_ >>= _) c (p + 1) = _; rw [zrb, zs2 h1 h2]; rfl) (by omega)
theorem zd_161 {c : ByteArray} {p a a2 : Nat} (h : zB c p = some 161) (h1 : zB c (p + 1) = some a) (h2 : zB c (p + 1 + 1) = some a2) : decode c p = .ok (.if_icmp .lt (Reader.signed 16 (a * 256 + a2)), 3) := zdec (q := p + 3) (by unfold Decoder.instr; rw [zrb, zu1 h]; show Reader.runAt (_ >>= _) c (p + 1) = _; rw [zrb, zs2 h1 h2]; rfl) (by omega)
theorem zd_162 {c : ByteArray} {p a a2 : Nat} (h : zB c p = some 162) (h1 : zB c (p + 1) = some a) (h2 : zB c (p + 1 + 1) = some a2) : decode c p = .ok (.if_icmp .ge (Reader.signed 16 (a * 256 + a2)), 3) := zdec (q := p + 3) (by unfold Decoder.instr; rw [zrb, zu1 h]; show Reader.runAt (_ >>= _) c (p + 1) = _; rw [zrb, zs2 h1 h2]; rfl) (by omega)
theorem zd_163 {c : ByteArray} {p a a2 : Nat} (h : zB c p = some 163) (h1 : zB c (p + 1) = some a) (h2 : zB c (p + 1 + 1) = some a2) : decode c p = .ok (.if_icmp .gt (Reader.signed 16 (a * 256 + a2)), 3) := zdec (q := p + 3) (by unfold Decoder.instr; rw [zrb, zu1 h]; show Reader.runAt (_ >>= _) c (p + 1) = _; rw [zrb, zs2 h1 h2]; rfl) (by omega)
theorem zd_164 {c : ByteArray} {p a a2 : Nat} (h : zB c p = some 164) (h1 : zB c (p + 1) = some a) (h2 : zB c (p + 1 + 1) = some a2) : decode c p = .ok (.if_icmp .le (Reader.signed 16 (a * 256 + a2)), 3) := zdec (q := p + 3) (by unfold Decoder.instr; rw [zrb, zu1 h]; show Reader.runAt (_ >>= _) c (p + 1) = _; rw [zrb, zs2 h1 h2]; rfl) (by omega)
theorem zd_167 {c : ByteArray} {p a a2 : Nat} (h : zB c p = some 167) (h1 : zB c (p + 1) = some a) (h2 : zB c (p + 1 + 1) = some a2) : decode c p = .ok (.goto (Reader.signed 16 (a * 256 + a2)), 3) := zdec (q := p + 3) (by unfold Decoder.instr; rw [zrb, zu1 h]; show Reader.runAt (_ >>= _) c (p + 1) = _; rw [zrb, zs2 h1 h2]; rfl) (by omega)
theorem zd_198 {c : ByteArray} {p a a2 : Nat} (h : zB c p = some 198) (h1 : zB c (p + 1) = some a) (h2 : zB c (p + 1 + 1) = some a2) : decode c p = .ok (.ifnull (Reader.signed 16 (a * 256 + a2)), 3) := zdec (q := p + 3) (by unfold Decoder.instr; rw [zrb, zu1 h]; show Reader.runAt (_ >>= _) c (p + 1) = _; rw [zrb, zs2 h1 h2]; rfl) (by omega)
theorem zd_199 {c : ByteArray} {p a a2 : Nat} (h : zB c p = some 199) (h1 : zB c (p + 1) = some a) (h2 : zB c (p + 1 + 1) = some a2) : decode c p = .ok (.ifnonnull (Reader.signed 16 (a * 256 + a2)), 3) := zdec (q := p + 3) (by unfold Decoder.instr; rw [zrb, zu1 h]; show Reader.runAt (_ >>= _) c (p + 1) = _; rw [zrb, zs2 h1 h2]; rfl) (by omega)
theorem zd_132 {c : ByteArray} {p a a2 : Nat} (h : zB c p = some 132) (h1 : zB c (p + 1) = some a) (h2 : zB c (p + 1 + 1) = some a2) : decode c p = .ok (.iinc a (Reader.signed 8 a2), 3) := zdec (q := p + 3) (by unfold Decoder.instr; rw [zrb, zu1 h]; show Reader.runAt (_ >>= _) c (p + 1) = _; rw [zrb, zu1 h1]; show Reader.runAt (_ >>= _) c (p + 1 + 1) = _; rw [zrb, zs1 h2]; rfl) (by omega)
