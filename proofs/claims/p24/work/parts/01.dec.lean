/-! bytes and instructions: what an instruction's own bytes say of decode -/
abbrev AI : Type := Nat × Nat × Int
abbrev LV : Type := List (Nat × Value)
abbrev AO : Type := Nat × List Value
abbrev AH : Type := (Nat → Option AO) × Nat × Nat
def rd (c : ByteArray) (p b : Nat) : Prop := ∃ h : p < c.size, (c[p]).toNat = b
theorem rbind {α β : Type} {x : Jvm.ClassFile.Decoder α} {f : α → Jvm.ClassFile.Decoder β} {c : ByteArray} {p q : Nat} {a : α} (h : x c p = .ok (a, q)) : (x >>= f) c p = f a c q := by
  show (ReaderT.bind x f) c p = _
  simp only [ReaderT.bind, bind, StateT.bind, Except.bind, h]
theorem u1_run {c : ByteArray} {p b : Nat} (h : rd c p b) : (Jvm.ClassFile.Reader.u1 : Jvm.ClassFile.Decoder Nat) c p = .ok (b, p + 1) := by
  obtain ⟨h1, h2⟩ := h
  subst h2
  unfold Jvm.ClassFile.Reader.u1
  refine (rbind (a := c) (q := p) rfl).trans ?_
  refine (rbind (a := p) (q := p) rfl).trans ?_
  rw [dif_pos h1]
  rfl
theorem u2_run {c : ByteArray} {p a b : Nat} (h : rd c p a) (h2 : rd c (p + 1) b) : (Jvm.ClassFile.Reader.u2 : Jvm.ClassFile.Decoder Nat) c p = .ok (a * 256 + b, p + 2) := by
  unfold Jvm.ClassFile.Reader.u2
  exact (rbind (u1_run h)).trans (rbind (u1_run h2))
theorem s1_run {c : ByteArray} {p b : Nat} (h : rd c p b) : (Jvm.ClassFile.Reader.s1 : Jvm.ClassFile.Decoder Int) c p = .ok (Jvm.ClassFile.Reader.signed 8 b, p + 1) := by
  unfold Jvm.ClassFile.Reader.s1
  show ((Jvm.ClassFile.Reader.u1 : Jvm.ClassFile.Decoder Nat) >>= fun a => pure (Jvm.ClassFile.Reader.signed 8 a)) c p = _
  exact (rbind (u1_run h))
theorem s2_run {c : ByteArray} {p a b : Nat} (h : rd c p a) (h2 : rd c (p + 1) b) : (Jvm.ClassFile.Reader.s2 : Jvm.ClassFile.Decoder Int) c p = .ok (Jvm.ClassFile.Reader.signed 16 (a * 256 + b), p + 2) := by
  unfold Jvm.ClassFile.Reader.s2
  show ((Jvm.ClassFile.Reader.u2 : Jvm.ClassFile.Decoder Nat) >>= fun a => pure (Jvm.ClassFile.Reader.signed 16 a)) c p = _
  exact (rbind (u2_run h h2))
theorem dec_of {c : ByteArray} {pc n : Nat} {i : Instr} (h : Jvm.ClassFile.Decoder.instr pc c pc = .ok (i, pc + n)) : decode c pc = .ok (i, n) := by
  unfold decode Jvm.ClassFile.Reader.runAt
  show (Except.bind (Jvm.ClassFile.Decoder.instr pc c pc) _) = _
  rw [h]
  show Except.ok (_, pc + n - pc) = _
  rw [Nat.add_sub_cancel_left]
theorem dec_1 {c : ByteArray} {pc : Nat} (h : rd c pc 1) : decode c pc = .ok (.aconst_null, 1) := by
  refine dec_of ?_
  unfold Jvm.ClassFile.Decoder.instr
  exact rbind (u1_run h)
theorem dec_2 {c : ByteArray} {pc : Nat} (h : rd c pc 2) : decode c pc = .ok (.iconst (-1), 1) := by
  refine dec_of ?_
  unfold Jvm.ClassFile.Decoder.instr
  exact rbind (u1_run h)
theorem dec_3 {c : ByteArray} {pc : Nat} (h : rd c pc 3) : decode c pc = .ok (.iconst 0, 1) := by
  refine dec_of ?_
  unfold Jvm.ClassFile.Decoder.instr
  exact rbind (u1_run h)
theorem dec_4 {c : ByteArray} {pc : Nat} (h : rd c pc 4) : decode c pc = .ok (.iconst 1, 1) := by
  refine dec_of ?_
  unfold Jvm.ClassFile.Decoder.instr
  exact rbind (u1_run h)
theorem dec_5 {c : ByteArray} {pc : Nat} (h : rd c pc 5) : decode c pc = .ok (.iconst 2, 1) := by
  refine dec_of ?_
  unfold Jvm.ClassFile.Decoder.instr
  exact rbind (u1_run h)
theorem dec_6 {c : ByteArray} {pc : Nat} (h : rd c pc 6) : decode c pc = .ok (.iconst 3, 1) := by
  refine dec_of ?_
  unfold Jvm.ClassFile.Decoder.instr
  exact rbind (u1_run h)
theorem dec_7 {c : ByteArray} {pc : Nat} (h : rd c pc 7) : decode c pc = .ok (.iconst 4, 1) := by
  refine dec_of ?_
  unfold Jvm.ClassFile.Decoder.instr
  exact rbind (u1_run h)
theorem dec_8 {c : ByteArray} {pc : Nat} (h : rd c pc 8) : decode c pc = .ok (.iconst 5, 1) := by
  refine dec_of ?_
  unfold Jvm.ClassFile.Decoder.instr
  exact rbind (u1_run h)
theorem dec_9 {c : ByteArray} {pc : Nat} (h : rd c pc 9) : decode c pc = .ok (.lconst 0, 1) := by
  refine dec_of ?_
  unfold Jvm.ClassFile.Decoder.instr
  exact rbind (u1_run h)
theorem dec_10 {c : ByteArray} {pc : Nat} (h : rd c pc 10) : decode c pc = .ok (.lconst 1, 1) := by
  refine dec_of ?_
  unfold Jvm.ClassFile.Decoder.instr
  exact rbind (u1_run h)
theorem dec_26 {c : ByteArray} {pc : Nat} (h : rd c pc 26) : decode c pc = .ok (.iload_n 0, 1) := by
  refine dec_of ?_
  unfold Jvm.ClassFile.Decoder.instr
  exact rbind (u1_run h)
theorem dec_27 {c : ByteArray} {pc : Nat} (h : rd c pc 27) : decode c pc = .ok (.iload_n 1, 1) := by
  refine dec_of ?_
  unfold Jvm.ClassFile.Decoder.instr
  exact rbind (u1_run h)
theorem dec_28 {c : ByteArray} {pc : Nat} (h : rd c pc 28) : decode c pc = .ok (.iload_n 2, 1) := by
  refine dec_of ?_
  unfold Jvm.ClassFile.Decoder.instr
  exact rbind (u1_run h)
theorem dec_29 {c : ByteArray} {pc : Nat} (h : rd c pc 29) : decode c pc = .ok (.iload_n 3, 1) := by
  refine dec_of ?_
  unfold Jvm.ClassFile.Decoder.instr
  exact rbind (u1_run h)
theorem dec_30 {c : ByteArray} {pc : Nat} (h : rd c pc 30) : decode c pc = .ok (.lload_n 0, 1) := by
  refine dec_of ?_
  unfold Jvm.ClassFile.Decoder.instr
  exact rbind (u1_run h)
theorem dec_31 {c : ByteArray} {pc : Nat} (h : rd c pc 31) : decode c pc = .ok (.lload_n 1, 1) := by
  refine dec_of ?_
  unfold Jvm.ClassFile.Decoder.instr
  exact rbind (u1_run h)
theorem dec_32 {c : ByteArray} {pc : Nat} (h : rd c pc 32) : decode c pc = .ok (.lload_n 2, 1) := by
  refine dec_of ?_
  unfold Jvm.ClassFile.Decoder.instr
  exact rbind (u1_run h)
theorem dec_33 {c : ByteArray} {pc : Nat} (h : rd c pc 33) : decode c pc = .ok (.lload_n 3, 1) := by
  refine dec_of ?_
  unfold Jvm.ClassFile.Decoder.instr
  exact rbind (u1_run h)
theorem dec_42 {c : ByteArray} {pc : Nat} (h : rd c pc 42) : decode c pc = .ok (.aload_n 0, 1) := by
  refine dec_of ?_
  unfold Jvm.ClassFile.Decoder.instr
  exact rbind (u1_run h)
theorem dec_43 {c : ByteArray} {pc : Nat} (h : rd c pc 43) : decode c pc = .ok (.aload_n 1, 1) := by
  refine dec_of ?_
  unfold Jvm.ClassFile.Decoder.instr
  exact rbind (u1_run h)
theorem dec_44 {c : ByteArray} {pc : Nat} (h : rd c pc 44) : decode c pc = .ok (.aload_n 2, 1) := by
  refine dec_of ?_
  unfold Jvm.ClassFile.Decoder.instr
  exact rbind (u1_run h)
theorem dec_45 {c : ByteArray} {pc : Nat} (h : rd c pc 45) : decode c pc = .ok (.aload_n 3, 1) := by
  refine dec_of ?_
  unfold Jvm.ClassFile.Decoder.instr
  exact rbind (u1_run h)
theorem dec_46 {c : ByteArray} {pc : Nat} (h : rd c pc 46) : decode c pc = .ok (.iaload, 1) := by
  refine dec_of ?_
  unfold Jvm.ClassFile.Decoder.instr
  exact rbind (u1_run h)
theorem dec_47 {c : ByteArray} {pc : Nat} (h : rd c pc 47) : decode c pc = .ok (.laload, 1) := by
  refine dec_of ?_
  unfold Jvm.ClassFile.Decoder.instr
  exact rbind (u1_run h)
theorem dec_50 {c : ByteArray} {pc : Nat} (h : rd c pc 50) : decode c pc = .ok (.aaload, 1) := by
  refine dec_of ?_
  unfold Jvm.ClassFile.Decoder.instr
  exact rbind (u1_run h)
theorem dec_51 {c : ByteArray} {pc : Nat} (h : rd c pc 51) : decode c pc = .ok (.baload, 1) := by
  refine dec_of ?_
  unfold Jvm.ClassFile.Decoder.instr
  exact rbind (u1_run h)
theorem dec_52 {c : ByteArray} {pc : Nat} (h : rd c pc 52) : decode c pc = .ok (.caload, 1) := by
  refine dec_of ?_
  unfold Jvm.ClassFile.Decoder.instr
  exact rbind (u1_run h)
theorem dec_59 {c : ByteArray} {pc : Nat} (h : rd c pc 59) : decode c pc = .ok (.istore_n 0, 1) := by
  refine dec_of ?_
  unfold Jvm.ClassFile.Decoder.instr
  exact rbind (u1_run h)
theorem dec_60 {c : ByteArray} {pc : Nat} (h : rd c pc 60) : decode c pc = .ok (.istore_n 1, 1) := by
  refine dec_of ?_
  unfold Jvm.ClassFile.Decoder.instr
  exact rbind (u1_run h)
theorem dec_61 {c : ByteArray} {pc : Nat} (h : rd c pc 61) : decode c pc = .ok (.istore_n 2, 1) := by
  refine dec_of ?_
  unfold Jvm.ClassFile.Decoder.instr
  exact rbind (u1_run h)
theorem dec_62 {c : ByteArray} {pc : Nat} (h : rd c pc 62) : decode c pc = .ok (.istore_n 3, 1) := by
  refine dec_of ?_
  unfold Jvm.ClassFile.Decoder.instr
  exact rbind (u1_run h)
theorem dec_63 {c : ByteArray} {pc : Nat} (h : rd c pc 63) : decode c pc = .ok (.lstore_n 0, 1) := by
  refine dec_of ?_
  unfold Jvm.ClassFile.Decoder.instr
  exact rbind (u1_run h)
theorem dec_64 {c : ByteArray} {pc : Nat} (h : rd c pc 64) : decode c pc = .ok (.lstore_n 1, 1) := by
  refine dec_of ?_
  unfold Jvm.ClassFile.Decoder.instr
  exact rbind (u1_run h)
theorem dec_65 {c : ByteArray} {pc : Nat} (h : rd c pc 65) : decode c pc = .ok (.lstore_n 2, 1) := by
  refine dec_of ?_
  unfold Jvm.ClassFile.Decoder.instr
  exact rbind (u1_run h)
theorem dec_66 {c : ByteArray} {pc : Nat} (h : rd c pc 66) : decode c pc = .ok (.lstore_n 3, 1) := by
  refine dec_of ?_
  unfold Jvm.ClassFile.Decoder.instr
  exact rbind (u1_run h)
theorem dec_75 {c : ByteArray} {pc : Nat} (h : rd c pc 75) : decode c pc = .ok (.astore_n 0, 1) := by
  refine dec_of ?_
  unfold Jvm.ClassFile.Decoder.instr
  exact rbind (u1_run h)
theorem dec_76 {c : ByteArray} {pc : Nat} (h : rd c pc 76) : decode c pc = .ok (.astore_n 1, 1) := by
  refine dec_of ?_
  unfold Jvm.ClassFile.Decoder.instr
  exact rbind (u1_run h)
theorem dec_77 {c : ByteArray} {pc : Nat} (h : rd c pc 77) : decode c pc = .ok (.astore_n 2, 1) := by
  refine dec_of ?_
  unfold Jvm.ClassFile.Decoder.instr
  exact rbind (u1_run h)
theorem dec_78 {c : ByteArray} {pc : Nat} (h : rd c pc 78) : decode c pc = .ok (.astore_n 3, 1) := by
  refine dec_of ?_
  unfold Jvm.ClassFile.Decoder.instr
  exact rbind (u1_run h)
theorem dec_79 {c : ByteArray} {pc : Nat} (h : rd c pc 79) : decode c pc = .ok (.iastore, 1) := by
  refine dec_of ?_
  unfold Jvm.ClassFile.Decoder.instr
  exact rbind (u1_run h)
theorem dec_80 {c : ByteArray} {pc : Nat} (h : rd c pc 80) : decode c pc = .ok (.lastore, 1) := by
  refine dec_of ?_
  unfold Jvm.ClassFile.Decoder.instr
  exact rbind (u1_run h)
theorem dec_83 {c : ByteArray} {pc : Nat} (h : rd c pc 83) : decode c pc = .ok (.aastore, 1) := by
  refine dec_of ?_
  unfold Jvm.ClassFile.Decoder.instr
  exact rbind (u1_run h)
theorem dec_84 {c : ByteArray} {pc : Nat} (h : rd c pc 84) : decode c pc = .ok (.bastore, 1) := by
  refine dec_of ?_
  unfold Jvm.ClassFile.Decoder.instr
  exact rbind (u1_run h)
theorem dec_87 {c : ByteArray} {pc : Nat} (h : rd c pc 87) : decode c pc = .ok (.pop, 1) := by
  refine dec_of ?_
  unfold Jvm.ClassFile.Decoder.instr
  exact rbind (u1_run h)
theorem dec_88 {c : ByteArray} {pc : Nat} (h : rd c pc 88) : decode c pc = .ok (.pop2, 1) := by
  refine dec_of ?_
  unfold Jvm.ClassFile.Decoder.instr
  exact rbind (u1_run h)
theorem dec_89 {c : ByteArray} {pc : Nat} (h : rd c pc 89) : decode c pc = .ok (.dup, 1) := by
  refine dec_of ?_
  unfold Jvm.ClassFile.Decoder.instr
  exact rbind (u1_run h)
theorem dec_90 {c : ByteArray} {pc : Nat} (h : rd c pc 90) : decode c pc = .ok (.dup_x1, 1) := by
  refine dec_of ?_
  unfold Jvm.ClassFile.Decoder.instr
  exact rbind (u1_run h)
theorem dec_92 {c : ByteArray} {pc : Nat} (h : rd c pc 92) : decode c pc = .ok (.dup2, 1) := by
  refine dec_of ?_
  unfold Jvm.ClassFile.Decoder.instr
  exact rbind (u1_run h)
theorem dec_96 {c : ByteArray} {pc : Nat} (h : rd c pc 96) : decode c pc = .ok (.iadd, 1) := by
  refine dec_of ?_
  unfold Jvm.ClassFile.Decoder.instr
  exact rbind (u1_run h)
theorem dec_97 {c : ByteArray} {pc : Nat} (h : rd c pc 97) : decode c pc = .ok (.ladd, 1) := by
  refine dec_of ?_
  unfold Jvm.ClassFile.Decoder.instr
  exact rbind (u1_run h)
theorem dec_100 {c : ByteArray} {pc : Nat} (h : rd c pc 100) : decode c pc = .ok (.isub, 1) := by
  refine dec_of ?_
  unfold Jvm.ClassFile.Decoder.instr
  exact rbind (u1_run h)
theorem dec_101 {c : ByteArray} {pc : Nat} (h : rd c pc 101) : decode c pc = .ok (.lsub, 1) := by
  refine dec_of ?_
  unfold Jvm.ClassFile.Decoder.instr
  exact rbind (u1_run h)
theorem dec_104 {c : ByteArray} {pc : Nat} (h : rd c pc 104) : decode c pc = .ok (.imul, 1) := by
  refine dec_of ?_
  unfold Jvm.ClassFile.Decoder.instr
  exact rbind (u1_run h)
theorem dec_105 {c : ByteArray} {pc : Nat} (h : rd c pc 105) : decode c pc = .ok (.lmul, 1) := by
  refine dec_of ?_
  unfold Jvm.ClassFile.Decoder.instr
  exact rbind (u1_run h)
theorem dec_108 {c : ByteArray} {pc : Nat} (h : rd c pc 108) : decode c pc = .ok (.idiv, 1) := by
  refine dec_of ?_
  unfold Jvm.ClassFile.Decoder.instr
  exact rbind (u1_run h)
theorem dec_109 {c : ByteArray} {pc : Nat} (h : rd c pc 109) : decode c pc = .ok (.ldiv, 1) := by
  refine dec_of ?_
  unfold Jvm.ClassFile.Decoder.instr
  exact rbind (u1_run h)
theorem dec_112 {c : ByteArray} {pc : Nat} (h : rd c pc 112) : decode c pc = .ok (.irem, 1) := by
  refine dec_of ?_
  unfold Jvm.ClassFile.Decoder.instr
  exact rbind (u1_run h)
theorem dec_116 {c : ByteArray} {pc : Nat} (h : rd c pc 116) : decode c pc = .ok (.ineg, 1) := by
  refine dec_of ?_
  unfold Jvm.ClassFile.Decoder.instr
  exact rbind (u1_run h)
theorem dec_120 {c : ByteArray} {pc : Nat} (h : rd c pc 120) : decode c pc = .ok (.ishl, 1) := by
  refine dec_of ?_
  unfold Jvm.ClassFile.Decoder.instr
  exact rbind (u1_run h)
theorem dec_122 {c : ByteArray} {pc : Nat} (h : rd c pc 122) : decode c pc = .ok (.ishr, 1) := by
  refine dec_of ?_
  unfold Jvm.ClassFile.Decoder.instr
  exact rbind (u1_run h)
theorem dec_126 {c : ByteArray} {pc : Nat} (h : rd c pc 126) : decode c pc = .ok (.iand, 1) := by
  refine dec_of ?_
  unfold Jvm.ClassFile.Decoder.instr
  exact rbind (u1_run h)
theorem dec_128 {c : ByteArray} {pc : Nat} (h : rd c pc 128) : decode c pc = .ok (.ior, 1) := by
  refine dec_of ?_
  unfold Jvm.ClassFile.Decoder.instr
  exact rbind (u1_run h)
theorem dec_130 {c : ByteArray} {pc : Nat} (h : rd c pc 130) : decode c pc = .ok (.ixor, 1) := by
  refine dec_of ?_
  unfold Jvm.ClassFile.Decoder.instr
  exact rbind (u1_run h)
theorem dec_133 {c : ByteArray} {pc : Nat} (h : rd c pc 133) : decode c pc = .ok (.i2l, 1) := by
  refine dec_of ?_
  unfold Jvm.ClassFile.Decoder.instr
  exact rbind (u1_run h)
theorem dec_136 {c : ByteArray} {pc : Nat} (h : rd c pc 136) : decode c pc = .ok (.l2i, 1) := by
  refine dec_of ?_
  unfold Jvm.ClassFile.Decoder.instr
  exact rbind (u1_run h)
theorem dec_145 {c : ByteArray} {pc : Nat} (h : rd c pc 145) : decode c pc = .ok (.i2b, 1) := by
  refine dec_of ?_
  unfold Jvm.ClassFile.Decoder.instr
  exact rbind (u1_run h)
theorem dec_147 {c : ByteArray} {pc : Nat} (h : rd c pc 147) : decode c pc = .ok (.i2s, 1) := by
  refine dec_of ?_
  unfold Jvm.ClassFile.Decoder.instr
  exact rbind (u1_run h)
theorem dec_148 {c : ByteArray} {pc : Nat} (h : rd c pc 148) : decode c pc = .ok (.lcmp, 1) := by
  refine dec_of ?_
  unfold Jvm.ClassFile.Decoder.instr
  exact rbind (u1_run h)
theorem dec_172 {c : ByteArray} {pc : Nat} (h : rd c pc 172) : decode c pc = .ok (.ireturn, 1) := by
  refine dec_of ?_
  unfold Jvm.ClassFile.Decoder.instr
  exact rbind (u1_run h)
theorem dec_173 {c : ByteArray} {pc : Nat} (h : rd c pc 173) : decode c pc = .ok (.lreturn, 1) := by
  refine dec_of ?_
  unfold Jvm.ClassFile.Decoder.instr
  exact rbind (u1_run h)
theorem dec_176 {c : ByteArray} {pc : Nat} (h : rd c pc 176) : decode c pc = .ok (.areturn, 1) := by
  refine dec_of ?_
  unfold Jvm.ClassFile.Decoder.instr
  exact rbind (u1_run h)
theorem dec_177 {c : ByteArray} {pc : Nat} (h : rd c pc 177) : decode c pc = .ok (.return_, 1) := by
  refine dec_of ?_
  unfold Jvm.ClassFile.Decoder.instr
  exact rbind (u1_run h)
theorem dec_190 {c : ByteArray} {pc : Nat} (h : rd c pc 190) : decode c pc = .ok (.arraylength, 1) := by
  refine dec_of ?_
  unfold Jvm.ClassFile.Decoder.instr
  exact rbind (u1_run h)
theorem dec_18 {c : ByteArray} {pc a : Nat} (h : rd c pc 18) (h1 : rd c (pc + 1) a) : decode c pc = .ok (.ldc a, 2) := by
  refine dec_of ?_
  unfold Jvm.ClassFile.Decoder.instr
  exact (rbind (u1_run h)).trans (rbind (u1_run h1))
theorem dec_21 {c : ByteArray} {pc a : Nat} (h : rd c pc 21) (h1 : rd c (pc + 1) a) : decode c pc = .ok (.iload a, 2) := by
  refine dec_of ?_
  unfold Jvm.ClassFile.Decoder.instr
  exact (rbind (u1_run h)).trans (rbind (u1_run h1))
theorem dec_22 {c : ByteArray} {pc a : Nat} (h : rd c pc 22) (h1 : rd c (pc + 1) a) : decode c pc = .ok (.lload a, 2) := by
  refine dec_of ?_
  unfold Jvm.ClassFile.Decoder.instr
  exact (rbind (u1_run h)).trans (rbind (u1_run h1))
theorem dec_25 {c : ByteArray} {pc a : Nat} (h : rd c pc 25) (h1 : rd c (pc + 1) a) : decode c pc = .ok (.aload a, 2) := by
  refine dec_of ?_
  unfold Jvm.ClassFile.Decoder.instr
  exact (rbind (u1_run h)).trans (rbind (u1_run h1))
theorem dec_54 {c : ByteArray} {pc a : Nat} (h : rd c pc 54) (h1 : rd c (pc + 1) a) : decode c pc = .ok (.istore a, 2) := by
  refine dec_of ?_
  unfold Jvm.ClassFile.Decoder.instr
  exact (rbind (u1_run h)).trans (rbind (u1_run h1))
theorem dec_55 {c : ByteArray} {pc a : Nat} (h : rd c pc 55) (h1 : rd c (pc + 1) a) : decode c pc = .ok (.lstore a, 2) := by
  refine dec_of ?_
  unfold Jvm.ClassFile.Decoder.instr
  exact (rbind (u1_run h)).trans (rbind (u1_run h1))
theorem dec_58 {c : ByteArray} {pc a : Nat} (h : rd c pc 58) (h1 : rd c (pc + 1) a) : decode c pc = .ok (.astore a, 2) := by
  refine dec_of ?_
  unfold Jvm.ClassFile.Decoder.instr
  exact (rbind (u1_run h)).trans (rbind (u1_run h1))
theorem dec_16 {c : ByteArray} {pc a : Nat} (h : rd c pc 16) (h1 : rd c (pc + 1) a) : decode c pc = .ok (.bipush (Jvm.ClassFile.Reader.signed 8 a), 2) := by
  refine dec_of ?_
  unfold Jvm.ClassFile.Decoder.instr
  exact (rbind (u1_run h)).trans (rbind (s1_run h1))
theorem dec_19 {c : ByteArray} {pc a b : Nat} (h : rd c pc 19) (h1 : rd c (pc + 1) a) (h2 : rd c (pc + 1 + 1) b) : decode c pc = .ok (.ldc_w (a * 256 + b), 3) := by
  refine dec_of ?_
  unfold Jvm.ClassFile.Decoder.instr
  exact (rbind (u1_run h)).trans (rbind (u2_run h1 h2))
theorem dec_20 {c : ByteArray} {pc a b : Nat} (h : rd c pc 20) (h1 : rd c (pc + 1) a) (h2 : rd c (pc + 1 + 1) b) : decode c pc = .ok (.ldc2_w (a * 256 + b), 3) := by
  refine dec_of ?_
  unfold Jvm.ClassFile.Decoder.instr
  exact (rbind (u1_run h)).trans (rbind (u2_run h1 h2))
theorem dec_178 {c : ByteArray} {pc a b : Nat} (h : rd c pc 178) (h1 : rd c (pc + 1) a) (h2 : rd c (pc + 1 + 1) b) : decode c pc = .ok (.getstatic (a * 256 + b), 3) := by
  refine dec_of ?_
  unfold Jvm.ClassFile.Decoder.instr
  exact (rbind (u1_run h)).trans (rbind (u2_run h1 h2))
theorem dec_180 {c : ByteArray} {pc a b : Nat} (h : rd c pc 180) (h1 : rd c (pc + 1) a) (h2 : rd c (pc + 1 + 1) b) : decode c pc = .ok (.getfield (a * 256 + b), 3) := by
  refine dec_of ?_
  unfold Jvm.ClassFile.Decoder.instr
  exact (rbind (u1_run h)).trans (rbind (u2_run h1 h2))
theorem dec_181 {c : ByteArray} {pc a b : Nat} (h : rd c pc 181) (h1 : rd c (pc + 1) a) (h2 : rd c (pc + 1 + 1) b) : decode c pc = .ok (.putfield (a * 256 + b), 3) := by
  refine dec_of ?_
  unfold Jvm.ClassFile.Decoder.instr
  exact (rbind (u1_run h)).trans (rbind (u2_run h1 h2))
theorem dec_182 {c : ByteArray} {pc a b : Nat} (h : rd c pc 182) (h1 : rd c (pc + 1) a) (h2 : rd c (pc + 1 + 1) b) : decode c pc = .ok (.invokevirtual (a * 256 + b), 3) := by
  refine dec_of ?_
  unfold Jvm.ClassFile.Decoder.instr
  exact (rbind (u1_run h)).trans (rbind (u2_run h1 h2))
theorem dec_183 {c : ByteArray} {pc a b : Nat} (h : rd c pc 183) (h1 : rd c (pc + 1) a) (h2 : rd c (pc + 1 + 1) b) : decode c pc = .ok (.invokespecial (a * 256 + b), 3) := by
  refine dec_of ?_
  unfold Jvm.ClassFile.Decoder.instr
  exact (rbind (u1_run h)).trans (rbind (u2_run h1 h2))
theorem dec_184 {c : ByteArray} {pc a b : Nat} (h : rd c pc 184) (h1 : rd c (pc + 1) a) (h2 : rd c (pc + 1 + 1) b) : decode c pc = .ok (.invokestatic (a * 256 + b), 3) := by
  refine dec_of ?_
  unfold Jvm.ClassFile.Decoder.instr
  exact (rbind (u1_run h)).trans (rbind (u2_run h1 h2))
theorem dec_187 {c : ByteArray} {pc a b : Nat} (h : rd c pc 187) (h1 : rd c (pc + 1) a) (h2 : rd c (pc + 1 + 1) b) : decode c pc = .ok (.new (a * 256 + b), 3) := by
  refine dec_of ?_
  unfold Jvm.ClassFile.Decoder.instr
  exact (rbind (u1_run h)).trans (rbind (u2_run h1 h2))
theorem dec_189 {c : ByteArray} {pc a b : Nat} (h : rd c pc 189) (h1 : rd c (pc + 1) a) (h2 : rd c (pc + 1 + 1) b) : decode c pc = .ok (.anewarray (a * 256 + b), 3) := by
  refine dec_of ?_
  unfold Jvm.ClassFile.Decoder.instr
  exact (rbind (u1_run h)).trans (rbind (u2_run h1 h2))
theorem dec_192 {c : ByteArray} {pc a b : Nat} (h : rd c pc 192) (h1 : rd c (pc + 1) a) (h2 : rd c (pc + 1 + 1) b) : decode c pc = .ok (.checkcast (a * 256 + b), 3) := by
  refine dec_of ?_
  unfold Jvm.ClassFile.Decoder.instr
  exact (rbind (u1_run h)).trans (rbind (u2_run h1 h2))
theorem dec_17 {c : ByteArray} {pc a b : Nat} (h : rd c pc 17) (h1 : rd c (pc + 1) a) (h2 : rd c (pc + 1 + 1) b) : decode c pc = .ok (.sipush (Jvm.ClassFile.Reader.signed 16 (a * 256 + b)), 3) := by
  refine dec_of ?_
  unfold Jvm.ClassFile.Decoder.instr
  exact (rbind (u1_run h)).trans (rbind (s2_run h1 h2))
theorem dec_153 {c : ByteArray} {pc a b : Nat} (h : rd c pc 153) (h1 : rd c (pc + 1) a) (h2 : rd c (pc + 1 + 1) b) : decode c pc = .ok (.ifCond .eq (Jvm.ClassFile.Reader.signed 16 (a * 256 + b)), 3) := by
  refine dec_of ?_
  unfold Jvm.ClassFile.Decoder.instr
  exact (rbind (u1_run h)).trans (rbind (s2_run h1 h2))
theorem dec_154 {c : ByteArray} {pc a b : Nat} (h : rd c pc 154) (h1 : rd c (pc + 1) a) (h2 : rd c (pc + 1 + 1) b) : decode c pc = .ok (.ifCond .ne (Jvm.ClassFile.Reader.signed 16 (a * 256 + b)), 3) := by
  refine dec_of ?_
  unfold Jvm.ClassFile.Decoder.instr
  exact (rbind (u1_run h)).trans (rbind (s2_run h1 h2))
theorem dec_155 {c : ByteArray} {pc a b : Nat} (h : rd c pc 155) (h1 : rd c (pc + 1) a) (h2 : rd c (pc + 1 + 1) b) : decode c pc = .ok (.ifCond .lt (Jvm.ClassFile.Reader.signed 16 (a * 256 + b)), 3) := by
  refine dec_of ?_
  unfold Jvm.ClassFile.Decoder.instr
  exact (rbind (u1_run h)).trans (rbind (s2_run h1 h2))
theorem dec_156 {c : ByteArray} {pc a b : Nat} (h : rd c pc 156) (h1 : rd c (pc + 1) a) (h2 : rd c (pc + 1 + 1) b) : decode c pc = .ok (.ifCond .ge (Jvm.ClassFile.Reader.signed 16 (a * 256 + b)), 3) := by
  refine dec_of ?_
  unfold Jvm.ClassFile.Decoder.instr
  exact (rbind (u1_run h)).trans (rbind (s2_run h1 h2))
theorem dec_157 {c : ByteArray} {pc a b : Nat} (h : rd c pc 157) (h1 : rd c (pc + 1) a) (h2 : rd c (pc + 1 + 1) b) : decode c pc = .ok (.ifCond .gt (Jvm.ClassFile.Reader.signed 16 (a * 256 + b)), 3) := by
  refine dec_of ?_
  unfold Jvm.ClassFile.Decoder.instr
  exact (rbind (u1_run h)).trans (rbind (s2_run h1 h2))
theorem dec_158 {c : ByteArray} {pc a b : Nat} (h : rd c pc 158) (h1 : rd c (pc + 1) a) (h2 : rd c (pc + 1 + 1) b) : decode c pc = .ok (.ifCond .le (Jvm.ClassFile.Reader.signed 16 (a * 256 + b)), 3) := by
  refine dec_of ?_
  unfold Jvm.ClassFile.Decoder.instr
  exact (rbind (u1_run h)).trans (rbind (s2_run h1 h2))
theorem dec_159 {c : ByteArray} {pc a b : Nat} (h : rd c pc 159) (h1 : rd c (pc + 1) a) (h2 : rd c (pc + 1 + 1) b) : decode c pc = .ok (.if_icmp .eq (Jvm.ClassFile.Reader.signed 16 (a * 256 + b)), 3) := by
  refine dec_of ?_
  unfold Jvm.ClassFile.Decoder.instr
  exact (rbind (u1_run h)).trans (rbind (s2_run h1 h2))
theorem dec_160 {c : ByteArray} {pc a b : Nat} (h : rd c pc 160) (h1 : rd c (pc + 1) a) (h2 : rd c (pc + 1 + 1) b) : decode c pc = .ok (.if_icmp .ne (Jvm.ClassFile.Reader.signed 16 (a * 256 + b)), 3) := by
  refine dec_of ?_
  unfold Jvm.ClassFile.Decoder.instr
  exact (rbind (u1_run h)).trans (rbind (s2_run h1 h2))
theorem dec_161 {c : ByteArray} {pc a b : Nat} (h : rd c pc 161) (h1 : rd c (pc + 1) a) (h2 : rd c (pc + 1 + 1) b) : decode c pc = .ok (.if_icmp .lt (Jvm.ClassFile.Reader.signed 16 (a * 256 + b)), 3) := by
  refine dec_of ?_
  unfold Jvm.ClassFile.Decoder.instr
  exact (rbind (u1_run h)).trans (rbind (s2_run h1 h2))
theorem dec_162 {c : ByteArray} {pc a b : Nat} (h : rd c pc 162) (h1 : rd c (pc + 1) a) (h2 : rd c (pc + 1 + 1) b) : decode c pc = .ok (.if_icmp .ge (Jvm.ClassFile.Reader.signed 16 (a * 256 + b)), 3) := by
  refine dec_of ?_
  unfold Jvm.ClassFile.Decoder.instr
  exact (rbind (u1_run h)).trans (rbind (s2_run h1 h2))
theorem dec_163 {c : ByteArray} {pc a b : Nat} (h : rd c pc 163) (h1 : rd c (pc + 1) a) (h2 : rd c (pc + 1 + 1) b) : decode c pc = .ok (.if_icmp .gt (Jvm.ClassFile.Reader.signed 16 (a * 256 + b)), 3) := by
  refine dec_of ?_
  unfold Jvm.ClassFile.Decoder.instr
  exact (rbind (u1_run h)).trans (rbind (s2_run h1 h2))
theorem dec_164 {c : ByteArray} {pc a b : Nat} (h : rd c pc 164) (h1 : rd c (pc + 1) a) (h2 : rd c (pc + 1 + 1) b) : decode c pc = .ok (.if_icmp .le (Jvm.ClassFile.Reader.signed 16 (a * 256 + b)), 3) := by
  refine dec_of ?_
  unfold Jvm.ClassFile.Decoder.instr
  exact (rbind (u1_run h)).trans (rbind (s2_run h1 h2))
theorem dec_165 {c : ByteArray} {pc a b : Nat} (h : rd c pc 165) (h1 : rd c (pc + 1) a) (h2 : rd c (pc + 1 + 1) b) : decode c pc = .ok (.if_acmp .eq (Jvm.ClassFile.Reader.signed 16 (a * 256 + b)), 3) := by
  refine dec_of ?_
  unfold Jvm.ClassFile.Decoder.instr
  exact (rbind (u1_run h)).trans (rbind (s2_run h1 h2))
theorem dec_166 {c : ByteArray} {pc a b : Nat} (h : rd c pc 166) (h1 : rd c (pc + 1) a) (h2 : rd c (pc + 1 + 1) b) : decode c pc = .ok (.if_acmp .ne (Jvm.ClassFile.Reader.signed 16 (a * 256 + b)), 3) := by
  refine dec_of ?_
  unfold Jvm.ClassFile.Decoder.instr
  exact (rbind (u1_run h)).trans (rbind (s2_run h1 h2))
theorem dec_167 {c : ByteArray} {pc a b : Nat} (h : rd c pc 167) (h1 : rd c (pc + 1) a) (h2 : rd c (pc + 1 + 1) b) : decode c pc = .ok (.goto (Jvm.ClassFile.Reader.signed 16 (a * 256 + b)), 3) := by
  refine dec_of ?_
  unfold Jvm.ClassFile.Decoder.instr
  exact (rbind (u1_run h)).trans (rbind (s2_run h1 h2))
theorem dec_198 {c : ByteArray} {pc a b : Nat} (h : rd c pc 198) (h1 : rd c (pc + 1) a) (h2 : rd c (pc + 1 + 1) b) : decode c pc = .ok (.ifnull (Jvm.ClassFile.Reader.signed 16 (a * 256 + b)), 3) := by
  refine dec_of ?_
  unfold Jvm.ClassFile.Decoder.instr
  exact (rbind (u1_run h)).trans (rbind (s2_run h1 h2))
theorem dec_199 {c : ByteArray} {pc a b : Nat} (h : rd c pc 199) (h1 : rd c (pc + 1) a) (h2 : rd c (pc + 1 + 1) b) : decode c pc = .ok (.ifnonnull (Jvm.ClassFile.Reader.signed 16 (a * 256 + b)), 3) := by
  refine dec_of ?_
  unfold Jvm.ClassFile.Decoder.instr
  exact (rbind (u1_run h)).trans (rbind (s2_run h1 h2))
theorem dec_132 {c : ByteArray} {pc a b : Nat} (h : rd c pc 132) (h1 : rd c (pc + 1) a) (h2 : rd c (pc + 1 + 1) b) : decode c pc = .ok (.iinc a (Jvm.ClassFile.Reader.signed 8 b), 3) := by
  refine dec_of ?_
  unfold Jvm.ClassFile.Decoder.instr
  exact (rbind (u1_run h)).trans ((rbind (u1_run h1)).trans (rbind (s1_run h2)))
theorem dec_188_4 {c : ByteArray} {pc : Nat} (h : rd c pc 188) (h1 : rd c (pc + 1) 4) : decode c pc = .ok (.newarray .boolean, 2) := by
  refine dec_of ?_
  unfold Jvm.ClassFile.Decoder.instr Jvm.ClassFile.Decoder.newarray
  exact (rbind (u1_run h)).trans (rbind (u1_run h1))
theorem dec_188_10 {c : ByteArray} {pc : Nat} (h : rd c pc 188) (h1 : rd c (pc + 1) 10) : decode c pc = .ok (.newarray .int, 2) := by
  refine dec_of ?_
  unfold Jvm.ClassFile.Decoder.instr Jvm.ClassFile.Decoder.newarray
  exact (rbind (u1_run h)).trans (rbind (u1_run h1))
theorem dec_188_11 {c : ByteArray} {pc : Nat} (h : rd c pc 188) (h1 : rd c (pc + 1) 11) : decode c pc = .ok (.newarray .long, 2) := by
  refine dec_of ?_
  unfold Jvm.ClassFile.Decoder.instr Jvm.ClassFile.Decoder.newarray
  exact (rbind (u1_run h)).trans (rbind (u1_run h1))
/-- the instruction at the head of a list of bytes (switches aside) -/
def par (bs : List UInt8) : Option (Instr × Nat) := match bs with
  | [] => none
  | x :: r => match x.toNat with
    | 1 => some (.aconst_null, 1)
    | 2 => some (.iconst (-1), 1)
    | 3 => some (.iconst 0, 1)
    | 4 => some (.iconst 1, 1)
    | 5 => some (.iconst 2, 1)
    | 6 => some (.iconst 3, 1)
    | 7 => some (.iconst 4, 1)
    | 8 => some (.iconst 5, 1)
    | 9 => some (.lconst 0, 1)
    | 10 => some (.lconst 1, 1)
    | 26 => some (.iload_n 0, 1)
    | 27 => some (.iload_n 1, 1)
    | 28 => some (.iload_n 2, 1)
    | 29 => some (.iload_n 3, 1)
    | 30 => some (.lload_n 0, 1)
    | 31 => some (.lload_n 1, 1)
    | 32 => some (.lload_n 2, 1)
    | 33 => some (.lload_n 3, 1)
    | 42 => some (.aload_n 0, 1)
    | 43 => some (.aload_n 1, 1)
    | 44 => some (.aload_n 2, 1)
    | 45 => some (.aload_n 3, 1)
    | 46 => some (.iaload, 1)
    | 47 => some (.laload, 1)
    | 50 => some (.aaload, 1)
    | 51 => some (.baload, 1)
    | 52 => some (.caload, 1)
    | 59 => some (.istore_n 0, 1)
    | 60 => some (.istore_n 1, 1)
    | 61 => some (.istore_n 2, 1)
    | 62 => some (.istore_n 3, 1)
    | 63 => some (.lstore_n 0, 1)
    | 64 => some (.lstore_n 1, 1)
    | 65 => some (.lstore_n 2, 1)
    | 66 => some (.lstore_n 3, 1)
    | 75 => some (.astore_n 0, 1)
    | 76 => some (.astore_n 1, 1)
    | 77 => some (.astore_n 2, 1)
    | 78 => some (.astore_n 3, 1)
    | 79 => some (.iastore, 1)
    | 80 => some (.lastore, 1)
    | 83 => some (.aastore, 1)
    | 84 => some (.bastore, 1)
    | 87 => some (.pop, 1)
    | 88 => some (.pop2, 1)
    | 89 => some (.dup, 1)
    | 90 => some (.dup_x1, 1)
    | 92 => some (.dup2, 1)
    | 96 => some (.iadd, 1)
    | 97 => some (.ladd, 1)
    | 100 => some (.isub, 1)
    | 101 => some (.lsub, 1)
    | 104 => some (.imul, 1)
    | 105 => some (.lmul, 1)
    | 108 => some (.idiv, 1)
    | 109 => some (.ldiv, 1)
    | 112 => some (.irem, 1)
    | 116 => some (.ineg, 1)
    | 120 => some (.ishl, 1)
    | 122 => some (.ishr, 1)
    | 126 => some (.iand, 1)
    | 128 => some (.ior, 1)
    | 130 => some (.ixor, 1)
    | 133 => some (.i2l, 1)
    | 136 => some (.l2i, 1)
    | 145 => some (.i2b, 1)
    | 147 => some (.i2s, 1)
    | 148 => some (.lcmp, 1)
    | 172 => some (.ireturn, 1)
    | 173 => some (.lreturn, 1)
    | 176 => some (.areturn, 1)
    | 177 => some (.return_, 1)
    | 190 => some (.arraylength, 1)
    | 16 => (match r with | a :: _ => some (.bipush (Jvm.ClassFile.Reader.signed 8 a.toNat), 2) | _ => none)
    | 18 => (match r with | a :: _ => some (.ldc a.toNat, 2) | _ => none)
    | 21 => (match r with | a :: _ => some (.iload a.toNat, 2) | _ => none)
    | 22 => (match r with | a :: _ => some (.lload a.toNat, 2) | _ => none)
    | 25 => (match r with | a :: _ => some (.aload a.toNat, 2) | _ => none)
    | 54 => (match r with | a :: _ => some (.istore a.toNat, 2) | _ => none)
    | 55 => (match r with | a :: _ => some (.lstore a.toNat, 2) | _ => none)
    | 58 => (match r with | a :: _ => some (.astore a.toNat, 2) | _ => none)
    | 17 => (match r with | a :: b :: _ => some (.sipush (Jvm.ClassFile.Reader.signed 16 (a.toNat * 256 + b.toNat)), 3) | _ => none)
    | 19 => (match r with | a :: b :: _ => some (.ldc_w (a.toNat * 256 + b.toNat), 3) | _ => none)
    | 20 => (match r with | a :: b :: _ => some (.ldc2_w (a.toNat * 256 + b.toNat), 3) | _ => none)
    | 153 => (match r with | a :: b :: _ => some (.ifCond .eq (Jvm.ClassFile.Reader.signed 16 (a.toNat * 256 + b.toNat)), 3) | _ => none)
    | 154 => (match r with | a :: b :: _ => some (.ifCond .ne (Jvm.ClassFile.Reader.signed 16 (a.toNat * 256 + b.toNat)), 3) | _ => none)
    | 155 => (match r with | a :: b :: _ => some (.ifCond .lt (Jvm.ClassFile.Reader.signed 16 (a.toNat * 256 + b.toNat)), 3) | _ => none)
    | 156 => (match r with | a :: b :: _ => some (.ifCond .ge (Jvm.ClassFile.Reader.signed 16 (a.toNat * 256 + b.toNat)), 3) | _ => none)
    | 157 => (match r with | a :: b :: _ => some (.ifCond .gt (Jvm.ClassFile.Reader.signed 16 (a.toNat * 256 + b.toNat)), 3) | _ => none)
    | 158 => (match r with | a :: b :: _ => some (.ifCond .le (Jvm.ClassFile.Reader.signed 16 (a.toNat * 256 + b.toNat)), 3) | _ => none)
    | 159 => (match r with | a :: b :: _ => some (.if_icmp .eq (Jvm.ClassFile.Reader.signed 16 (a.toNat * 256 + b.toNat)), 3) | _ => none)
    | 160 => (match r with | a :: b :: _ => some (.if_icmp .ne (Jvm.ClassFile.Reader.signed 16 (a.toNat * 256 + b.toNat)), 3) | _ => none)
    | 161 => (match r with | a :: b :: _ => some (.if_icmp .lt (Jvm.ClassFile.Reader.signed 16 (a.toNat * 256 + b.toNat)), 3) | _ => none)
    | 162 => (match r with | a :: b :: _ => some (.if_icmp .ge (Jvm.ClassFile.Reader.signed 16 (a.toNat * 256 + b.toNat)), 3) | _ => none)
    | 163 => (match r with | a :: b :: _ => some (.if_icmp .gt (Jvm.ClassFile.Reader.signed 16 (a.toNat * 256 + b.toNat)), 3) | _ => none)
    | 164 => (match r with | a :: b :: _ => some (.if_icmp .le (Jvm.ClassFile.Reader.signed 16 (a.toNat * 256 + b.toNat)), 3) | _ => none)
    | 165 => (match r with | a :: b :: _ => some (.if_acmp .eq (Jvm.ClassFile.Reader.signed 16 (a.toNat * 256 + b.toNat)), 3) | _ => none)
    | 166 => (match r with | a :: b :: _ => some (.if_acmp .ne (Jvm.ClassFile.Reader.signed 16 (a.toNat * 256 + b.toNat)), 3) | _ => none)
    | 167 => (match r with | a :: b :: _ => some (.goto (Jvm.ClassFile.Reader.signed 16 (a.toNat * 256 + b.toNat)), 3) | _ => none)
    | 178 => (match r with | a :: b :: _ => some (.getstatic (a.toNat * 256 + b.toNat), 3) | _ => none)
    | 180 => (match r with | a :: b :: _ => some (.getfield (a.toNat * 256 + b.toNat), 3) | _ => none)
    | 181 => (match r with | a :: b :: _ => some (.putfield (a.toNat * 256 + b.toNat), 3) | _ => none)
    | 182 => (match r with | a :: b :: _ => some (.invokevirtual (a.toNat * 256 + b.toNat), 3) | _ => none)
    | 183 => (match r with | a :: b :: _ => some (.invokespecial (a.toNat * 256 + b.toNat), 3) | _ => none)
    | 184 => (match r with | a :: b :: _ => some (.invokestatic (a.toNat * 256 + b.toNat), 3) | _ => none)
    | 187 => (match r with | a :: b :: _ => some (.new (a.toNat * 256 + b.toNat), 3) | _ => none)
    | 189 => (match r with | a :: b :: _ => some (.anewarray (a.toNat * 256 + b.toNat), 3) | _ => none)
    | 192 => (match r with | a :: b :: _ => some (.checkcast (a.toNat * 256 + b.toNat), 3) | _ => none)
    | 198 => (match r with | a :: b :: _ => some (.ifnull (Jvm.ClassFile.Reader.signed 16 (a.toNat * 256 + b.toNat)), 3) | _ => none)
    | 199 => (match r with | a :: b :: _ => some (.ifnonnull (Jvm.ClassFile.Reader.signed 16 (a.toNat * 256 + b.toNat)), 3) | _ => none)
    | 132 => (match r with | a :: b :: _ => some (.iinc a.toNat (Jvm.ClassFile.Reader.signed 8 b.toNat), 3) | _ => none)
    | 188 => (match r with | a :: _ => (match a.toNat with | 10 => some (.newarray .int, 2) | 11 => some (.newarray .long, 2) | 4 => some (.newarray .boolean, 2) | _ => none) | _ => none)
    | _ => none
theorem rd_of {c : ByteArray} {p : Nat} {x : UInt8} {r : List UInt8} (h : c.data.toList.drop p = x :: r) : rd c p x.toNat := by
  have h1 : c.data.toList[p]? = some x := by
    have := congrArg (fun l => l[0]?) h
    simpa using this
  have h2 : c.data[p]? = some x := by simpa using h1
  obtain ⟨h3, h4⟩ := Array.getElem?_eq_some_iff.mp h2
  exact ⟨h3, by show (c.data[p]).toNat = _; rw [h4]⟩
theorem drop_tl {α : Type} {l r : List α} {p : Nat} {x : α} (h : l.drop p = x :: r) : l.drop (p + 1) = r := by
  rw [← List.drop_drop, h]; rfl
set_option maxHeartbeats 4000000 in
theorem par_ok {c : ByteArray} {p n : Nat} {i : Instr} {bs : List UInt8} (hb : c.data.toList.drop p = bs) (h : par bs = some (i, n)) : decode c p = .ok (i, n) := by
  cases bs with
  | nil => cases h
  | cons x r =>
    have h0 := rd_of hb
    have hr := drop_tl hb
    unfold par at h
    dsimp only at h
    split at h
    · rename_i e; rw [e] at h0; cases h; exact dec_1 h0
    · rename_i e; rw [e] at h0; cases h; exact dec_2 h0
    · rename_i e; rw [e] at h0; cases h; exact dec_3 h0
    · rename_i e; rw [e] at h0; cases h; exact dec_4 h0
    · rename_i e; rw [e] at h0; cases h; exact dec_5 h0
    · rename_i e; rw [e] at h0; cases h; exact dec_6 h0
    · rename_i e; rw [e] at h0; cases h; exact dec_7 h0
    · rename_i e; rw [e] at h0; cases h; exact dec_8 h0
    · rename_i e; rw [e] at h0; cases h; exact dec_9 h0
    · rename_i e; rw [e] at h0; cases h; exact dec_10 h0
    · rename_i e; rw [e] at h0; cases h; exact dec_26 h0
    · rename_i e; rw [e] at h0; cases h; exact dec_27 h0
    · rename_i e; rw [e] at h0; cases h; exact dec_28 h0
    · rename_i e; rw [e] at h0; cases h; exact dec_29 h0
    · rename_i e; rw [e] at h0; cases h; exact dec_30 h0
    · rename_i e; rw [e] at h0; cases h; exact dec_31 h0
    · rename_i e; rw [e] at h0; cases h; exact dec_32 h0
    · rename_i e; rw [e] at h0; cases h; exact dec_33 h0
    · rename_i e; rw [e] at h0; cases h; exact dec_42 h0
    · rename_i e; rw [e] at h0; cases h; exact dec_43 h0
    · rename_i e; rw [e] at h0; cases h; exact dec_44 h0
    · rename_i e; rw [e] at h0; cases h; exact dec_45 h0
    · rename_i e; rw [e] at h0; cases h; exact dec_46 h0
    · rename_i e; rw [e] at h0; cases h; exact dec_47 h0
    · rename_i e; rw [e] at h0; cases h; exact dec_50 h0
    · rename_i e; rw [e] at h0; cases h; exact dec_51 h0
    · rename_i e; rw [e] at h0; cases h; exact dec_52 h0
    · rename_i e; rw [e] at h0; cases h; exact dec_59 h0
    · rename_i e; rw [e] at h0; cases h; exact dec_60 h0
    · rename_i e; rw [e] at h0; cases h; exact dec_61 h0
    · rename_i e; rw [e] at h0; cases h; exact dec_62 h0
    · rename_i e; rw [e] at h0; cases h; exact dec_63 h0
    · rename_i e; rw [e] at h0; cases h; exact dec_64 h0
    · rename_i e; rw [e] at h0; cases h; exact dec_65 h0
    · rename_i e; rw [e] at h0; cases h; exact dec_66 h0
    · rename_i e; rw [e] at h0; cases h; exact dec_75 h0
    · rename_i e; rw [e] at h0; cases h; exact dec_76 h0
    · rename_i e; rw [e] at h0; cases h; exact dec_77 h0
    · rename_i e; rw [e] at h0; cases h; exact dec_78 h0
    · rename_i e; rw [e] at h0; cases h; exact dec_79 h0
    · rename_i e; rw [e] at h0; cases h; exact dec_80 h0
    · rename_i e; rw [e] at h0; cases h; exact dec_83 h0
    · rename_i e; rw [e] at h0; cases h; exact dec_84 h0
    · rename_i e; rw [e] at h0; cases h; exact dec_87 h0
    · rename_i e; rw [e] at h0; cases h; exact dec_88 h0
    · rename_i e; rw [e] at h0; cases h; exact dec_89 h0
    · rename_i e; rw [e] at h0; cases h; exact dec_90 h0
    · rename_i e; rw [e] at h0; cases h; exact dec_92 h0
    · rename_i e; rw [e] at h0; cases h; exact dec_96 h0
    · rename_i e; rw [e] at h0; cases h; exact dec_97 h0
    · rename_i e; rw [e] at h0; cases h; exact dec_100 h0
    · rename_i e; rw [e] at h0; cases h; exact dec_101 h0
    · rename_i e; rw [e] at h0; cases h; exact dec_104 h0
    · rename_i e; rw [e] at h0; cases h; exact dec_105 h0
    · rename_i e; rw [e] at h0; cases h; exact dec_108 h0
    · rename_i e; rw [e] at h0; cases h; exact dec_109 h0
    · rename_i e; rw [e] at h0; cases h; exact dec_112 h0
    · rename_i e; rw [e] at h0; cases h; exact dec_116 h0
    · rename_i e; rw [e] at h0; cases h; exact dec_120 h0
    · rename_i e; rw [e] at h0; cases h; exact dec_122 h0
    · rename_i e; rw [e] at h0; cases h; exact dec_126 h0
    · rename_i e; rw [e] at h0; cases h; exact dec_128 h0
    · rename_i e; rw [e] at h0; cases h; exact dec_130 h0
    · rename_i e; rw [e] at h0; cases h; exact dec_133 h0
    · rename_i e; rw [e] at h0; cases h; exact dec_136 h0
    · rename_i e; rw [e] at h0; cases h; exact dec_145 h0
    · rename_i e; rw [e] at h0; cases h; exact dec_147 h0
    · rename_i e; rw [e] at h0; cases h; exact dec_148 h0
    · rename_i e; rw [e] at h0; cases h; exact dec_172 h0
    · rename_i e; rw [e] at h0; cases h; exact dec_173 h0
    · rename_i e; rw [e] at h0; cases h; exact dec_176 h0
    · rename_i e; rw [e] at h0; cases h; exact dec_177 h0
    · rename_i e; rw [e] at h0; cases h; exact dec_190 h0
    · rename_i e; rw [e] at h0
      cases r with
      | nil => cases h
      | cons a r2 => exact (by cases h; exact dec_16 h0 (rd_of hr))
    · rename_i e; rw [e] at h0
      cases r with
      | nil => cases h
      | cons a r2 => exact (by cases h; exact dec_18 h0 (rd_of hr))
    · rename_i e; rw [e] at h0
      cases r with
      | nil => cases h
      | cons a r2 => exact (by cases h; exact dec_21 h0 (rd_of hr))
    · rename_i e; rw [e] at h0
      cases r with
      | nil => cases h
      | cons a r2 => exact (by cases h; exact dec_22 h0 (rd_of hr))
    · rename_i e; rw [e] at h0
      cases r with
      | nil => cases h
      | cons a r2 => exact (by cases h; exact dec_25 h0 (rd_of hr))
    · rename_i e; rw [e] at h0
      cases r with
      | nil => cases h
      | cons a r2 => exact (by cases h; exact dec_54 h0 (rd_of hr))
    · rename_i e; rw [e] at h0
      cases r with
      | nil => cases h
      | cons a r2 => exact (by cases h; exact dec_55 h0 (rd_of hr))
    · rename_i e; rw [e] at h0
      cases r with
      | nil => cases h
      | cons a r2 => exact (by cases h; exact dec_58 h0 (rd_of hr))
    · rename_i e; rw [e] at h0
      rcases r with _ | ⟨a, _ | ⟨b, r2⟩⟩
      · cases h
      · cases h
      · cases h; exact dec_17 h0 (rd_of hr) (rd_of (drop_tl hr))
    · rename_i e; rw [e] at h0
      rcases r with _ | ⟨a, _ | ⟨b, r2⟩⟩
      · cases h
      · cases h
      · cases h; exact dec_19 h0 (rd_of hr) (rd_of (drop_tl hr))
    · rename_i e; rw [e] at h0
      rcases r with _ | ⟨a, _ | ⟨b, r2⟩⟩
      · cases h
      · cases h
      · cases h; exact dec_20 h0 (rd_of hr) (rd_of (drop_tl hr))
    · rename_i e; rw [e] at h0
      rcases r with _ | ⟨a, _ | ⟨b, r2⟩⟩
      · cases h
      · cases h
      · cases h; exact dec_153 h0 (rd_of hr) (rd_of (drop_tl hr))
    · rename_i e; rw [e] at h0
      rcases r with _ | ⟨a, _ | ⟨b, r2⟩⟩
      · cases h
      · cases h
      · cases h; exact dec_154 h0 (rd_of hr) (rd_of (drop_tl hr))
    · rename_i e; rw [e] at h0
      rcases r with _ | ⟨a, _ | ⟨b, r2⟩⟩
      · cases h
      · cases h
      · cases h; exact dec_155 h0 (rd_of hr) (rd_of (drop_tl hr))
    · rename_i e; rw [e] at h0
      rcases r with _ | ⟨a, _ | ⟨b, r2⟩⟩
      · cases h
      · cases h
      · cases h; exact dec_156 h0 (rd_of hr) (rd_of (drop_tl hr))
    · rename_i e; rw [e] at h0
      rcases r with _ | ⟨a, _ | ⟨b, r2⟩⟩
      · cases h
      · cases h
      · cases h; exact dec_157 h0 (rd_of hr) (rd_of (drop_tl hr))
    · rename_i e; rw [e] at h0
      rcases r with _ | ⟨a, _ | ⟨b, r2⟩⟩
      · cases h
      · cases h
      · cases h; exact dec_158 h0 (rd_of hr) (rd_of (drop_tl hr))
    · rename_i e; rw [e] at h0
      rcases r with _ | ⟨a, _ | ⟨b, r2⟩⟩
      · cases h
      · cases h
      · cases h; exact dec_159 h0 (rd_of hr) (rd_of (drop_tl hr))
    · rename_i e; rw [e] at h0
      rcases r with _ | ⟨a, _ | ⟨b, r2⟩⟩
      · cases h
      · cases h
      · cases h; exact dec_160 h0 (rd_of hr) (rd_of (drop_tl hr))
    · rename_i e; rw [e] at h0
      rcases r with _ | ⟨a, _ | ⟨b, r2⟩⟩
      · cases h
      · cases h
      · cases h; exact dec_161 h0 (rd_of hr) (rd_of (drop_tl hr))
    · rename_i e; rw [e] at h0
      rcases r with _ | ⟨a, _ | ⟨b, r2⟩⟩
      · cases h
      · cases h
      · cases h; exact dec_162 h0 (rd_of hr) (rd_of (drop_tl hr))
    · rename_i e; rw [e] at h0
      rcases r with _ | ⟨a, _ | ⟨b, r2⟩⟩
      · cases h
      · cases h
      · cases h; exact dec_163 h0 (rd_of hr) (rd_of (drop_tl hr))
    · rename_i e; rw [e] at h0
      rcases r with _ | ⟨a, _ | ⟨b, r2⟩⟩
      · cases h
      · cases h
      · cases h; exact dec_164 h0 (rd_of hr) (rd_of (drop_tl hr))
    · rename_i e; rw [e] at h0
      rcases r with _ | ⟨a, _ | ⟨b, r2⟩⟩
      · cases h
      · cases h
      · cases h; exact dec_165 h0 (rd_of hr) (rd_of (drop_tl hr))
    · rename_i e; rw [e] at h0
      rcases r with _ | ⟨a, _ | ⟨b, r2⟩⟩
      · cases h
      · cases h
      · cases h; exact dec_166 h0 (rd_of hr) (rd_of (drop_tl hr))
    · rename_i e; rw [e] at h0
      rcases r with _ | ⟨a, _ | ⟨b, r2⟩⟩
      · cases h
      · cases h
      · cases h; exact dec_167 h0 (rd_of hr) (rd_of (drop_tl hr))
    · rename_i e; rw [e] at h0
      rcases r with _ | ⟨a, _ | ⟨b, r2⟩⟩
      · cases h
      · cases h
      · cases h; exact dec_178 h0 (rd_of hr) (rd_of (drop_tl hr))
    · rename_i e; rw [e] at h0
      rcases r with _ | ⟨a, _ | ⟨b, r2⟩⟩
      · cases h
      · cases h
      · cases h; exact dec_180 h0 (rd_of hr) (rd_of (drop_tl hr))
    · rename_i e; rw [e] at h0
      rcases r with _ | ⟨a, _ | ⟨b, r2⟩⟩
      · cases h
      · cases h
      · cases h; exact dec_181 h0 (rd_of hr) (rd_of (drop_tl hr))
    · rename_i e; rw [e] at h0
      rcases r with _ | ⟨a, _ | ⟨b, r2⟩⟩
      · cases h
      · cases h
      · cases h; exact dec_182 h0 (rd_of hr) (rd_of (drop_tl hr))
    · rename_i e; rw [e] at h0
      rcases r with _ | ⟨a, _ | ⟨b, r2⟩⟩
      · cases h
      · cases h
      · cases h; exact dec_183 h0 (rd_of hr) (rd_of (drop_tl hr))
    · rename_i e; rw [e] at h0
      rcases r with _ | ⟨a, _ | ⟨b, r2⟩⟩
      · cases h
      · cases h
      · cases h; exact dec_184 h0 (rd_of hr) (rd_of (drop_tl hr))
    · rename_i e; rw [e] at h0
      rcases r with _ | ⟨a, _ | ⟨b, r2⟩⟩
      · cases h
      · cases h
      · cases h; exact dec_187 h0 (rd_of hr) (rd_of (drop_tl hr))
    · rename_i e; rw [e] at h0
      rcases r with _ | ⟨a, _ | ⟨b, r2⟩⟩
      · cases h
      · cases h
      · cases h; exact dec_189 h0 (rd_of hr) (rd_of (drop_tl hr))
    · rename_i e; rw [e] at h0
      rcases r with _ | ⟨a, _ | ⟨b, r2⟩⟩
      · cases h
      · cases h
      · cases h; exact dec_192 h0 (rd_of hr) (rd_of (drop_tl hr))
    · rename_i e; rw [e] at h0
      rcases r with _ | ⟨a, _ | ⟨b, r2⟩⟩
      · cases h
      · cases h
      · cases h; exact dec_198 h0 (rd_of hr) (rd_of (drop_tl hr))
    · rename_i e; rw [e] at h0
      rcases r with _ | ⟨a, _ | ⟨b, r2⟩⟩
      · cases h
      · cases h
      · cases h; exact dec_199 h0 (rd_of hr) (rd_of (drop_tl hr))
    · rename_i e; rw [e] at h0
      rcases r with _ | ⟨a, _ | ⟨b, r2⟩⟩
      · cases h
      · cases h
      · cases h; exact dec_132 h0 (rd_of hr) (rd_of (drop_tl hr))
    · rename_i e; rw [e] at h0
      rcases r with _ | ⟨a, r2⟩
      · cases h
      · have h1 := rd_of hr
        dsimp only at h
        split at h
        · rename_i e1; rw [e1] at h1; cases h; exact dec_188_10 h0 h1
        · rename_i e1; rw [e1] at h1; cases h; exact dec_188_11 h0 h1
        · rename_i e1; rw [e1] at h1; cases h; exact dec_188_4 h0 h1
        · cases h
    · cases h
