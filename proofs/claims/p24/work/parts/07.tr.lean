/-! ===== call sites; instructions in the plain form ===== -/
noncomputable def selIn (k : Nat) (x : MethodName) (M : Nat) : Bool := sll.any (fun s => s.1 == k && (s.2.2 == M && decide (s.2.1 = x)))
noncomputable def smeIn (x : MethodName) (o : String) : Bool := sme.any (fun s => decide (s.1 = x) && decide (s.2 = o))
noncomputable def siteT (x : MethodName) (t : Nat × Nat × Nat) : Bool := match t.2.2 with
  | 0 => decide (mY t.2.1 = x) && sml.contains t.2.1
  | 1 => decide (mY t.2.1 = x) && sml.contains t.2.1
  | 2 => decide (mY t.2.1 = x) && (iml.contains t.2.1 && (decide (x.name = "<init>") && decide (mR t.2.1 = none)))
  | 3 => decide (mY t.2.1 = x) && (iml.contains t.2.1 && (decide (x.name = "<init>") && decide (mR t.2.1 = none)))
  | 4 => decide (mY t.2.1 = x) && (iml.contains t.2.1 && (selIn t.1 x t.2.1 && decide (x.cls = kNm t.1)))
  | 5 => decide ((mY t.2.1) = ⟨(mY t.2.1).cls, x.name, x.desc⟩) && (iml.contains t.2.1 && (selIn t.1 x t.2.1 && smeIn x (mY t.2.1).cls))
  | 6 => iml.contains t.2.1 && (selIn t.1 x t.2.1 && (smeIn x x.cls && (dcl.contains x && (decide (x.cls ≠ "java/lang/invoke/MethodHandle") && decide (x.cls ≠ "java/lang/invoke/VarHandle")))))
  | _ => false
noncomputable def siteOK (e : Nat × Nat × Nat × Nat) (st : Nat) (fo : List Nat) : Bool :=
  ((spec e.2.2.1).1 == st) && (decide ((spec e.2.2.1).2.2 = (site e.2.2.2).2.map (fun t => (t.1, t.2.1))) && (decide ((parseMethodDescriptor (site e.2.2.2).1.desc).map (fun d => d.parameters.length) = some (spec e.2.2.1).2.1) && ((site e.2.2.2).2.all (fun t =>
    fo.contains t.2.2 && (decide (t.2.1 < nM) && (decide (¬ t.2.1 = mLaw) && (decide (t.1 < 13) && siteT (site e.2.2.2).1 t)))))))
theorem cs_vS0 : vS0.all (fun e => siteOK e 0 [0]) = true := by decide +kernel
theorem cs_vS1 : vS1.all (fun e => siteOK e 0 [1]) = true := by decide +kernel
theorem cs_vP2 : vP2.all (fun e => siteOK e 1 [2]) = true := by decide +kernel
theorem cs_vP3 : vP3.all (fun e => siteOK e 1 [3]) = true := by decide +kernel
theorem cs_vVV : vVV.all (fun e => siteOK e 1 [4, 5, 6]) = true := by decide +kernel
noncomputable def lk4 (l : List (Nat × Nat × Nat × Nat)) (o i : Nat) : Option Nat := (l.find? (fun x => x.1 == o && x.2.1 == i)).map (fun x => x.2.2.1)
noncomputable def lki (l : List (Nat × Nat × Int × Nat)) (o i : Nat) : Option Int := (l.find? (fun x => x.1 == o && x.2.1 == i)).map (fun x => x.2.2.1)
theorem lk4_mem {l : List (Nat × Nat × Nat × Nat)} {o i v : Nat} (h : lk4 l o i = some v) : ∃ p, (o, i, v, p) ∈ l := by
  unfold lk4 at h
  obtain ⟨⟨a, b, c, d⟩, h1, h2⟩ := Option.map_eq_some_iff.mp h
  have h3 := List.find?_some h1
  simp only [Bool.and_eq_true, beq_iff_eq] at h3
  dsimp only at h2
  obtain ⟨rfl, rfl⟩ := h3
  subst h2
  exact ⟨d, List.mem_of_find?_eq_some h1⟩
theorem lki_mem {l : List (Nat × Nat × Int × Nat)} {o i : Nat} {v : Int} (h : lki l o i = some v) : ∃ p, (o, i, v, p) ∈ l := by
  unfold lki at h
  obtain ⟨⟨a, b, c, d⟩, h1, h2⟩ := Option.map_eq_some_iff.mp h
  have h3 := List.find?_some h1
  simp only [Bool.and_eq_true, beq_iff_eq] at h3
  dsimp only at h2
  obtain ⟨rfl, rfl⟩ := h3
  subst h2
  exact ⟨d, List.mem_of_find?_eq_some h1⟩
noncomputable def cnum (c : Jvm.ClassFile.Cond) : Nat := match c with | .eq => 0 | .ne => 1 | .lt => 2 | .ge => 3 | .gt => 4 | .le => 5
noncomputable def tgt (pc : Nat) (off : Int) (a : Nat) (op : Nat) : Option AI := if 0 ≤ (pc : Int) + off then some (op, a, (pc : Int) + off) else none
/-- an instruction of method M at pc, in the plain form -/
noncomputable def tr (M pc : Nat) (i : Instr) : Option AI := match i with
  | .iconst v => some (0, 0, v)
  | .bipush v => if (Int8.ofInt v).toInt32 = Int32.ofInt v then some (0, 0, v) else none
  | .sipush v => if (Int16.ofInt v).toInt32 = Int32.ofInt v then some (0, 0, v) else none
  | .ldc x => match lki cit (mO M) x with
    | some v => some (0, 0, v)
    | none => (lk4 mirt (mO M) x).map (fun _ => (34, 0, 0))
  | .ldc_w x => (lki cit (mO M) x).map (fun v => (0, 0, v))
  | .lconst l => some (14, 0, ((l : Nat) : Int))
  | .ldc2_w x => (lki clt (mO M) x).map (fun v => (14, 0, v))
  | .iload_n k => some (1, k, 0)
  | .iload k => some (1, k, 0)
  | .lload_n k => some (1, k, 1)
  | .lload k => some (1, k, 1)
  | .aload_n k => some (1, k, 2)
  | .aload k => some (1, k, 2)
  | .istore_n k => if (k : Nat) < mL M then some (2, k, 0) else none
  | .istore k => if k < mL M then some (2, k, 0) else none
  | .lstore_n k => if (k : Nat) + 1 < mL M then some (2, k, 1) else none
  | .lstore k => if k + 1 < mL M then some (2, k, 1) else none
  | .astore_n k => if (k : Nat) < mL M then some (2, k, 2) else none
  | .astore k => if k < mL M then some (2, k, 2) else none
  | .iinc k v => if k < mL M then some (3, k, v) else none
  | .iadd => some (4, 0, 0)
  | .isub => some (4, 1, 0)
  | .imul => some (4, 2, 0)
  | .idiv => some (4, 3, 0)
  | .irem => some (4, 4, 0)
  | .iand => some (4, 5, 0)
  | .ior => some (4, 6, 0)
  | .ixor => some (4, 7, 0)
  | .ishl => some (4, 8, 0)
  | .ishr => some (4, 9, 0)
  | .if_icmp c off => tgt pc off (cnum c) 5
  | .ifCond c off => tgt pc off (cnum c) 6
  | .goto off => tgt pc off 0 7
  | .getfield x => (lk4 flt (mO M) x).map (fun f => (8, f, 0))
  | .putfield x => match lk4 flt (mO M) x with
    | some f => if (fks f).all (fun k => !(kT k (fpos f)).2.2.2 || (decide ((mY M).name = "<init>") && decide ((kT k (fpos f)).1 = on (mO M)))) then some (9, f, 0) else none
    | none => none
  | .iaload => some (10, 0, 0)
  | .laload => some (10, 1, 0)
  | .baload => some (10, 2, 0)
  | .caload => some (10, 3, 0)
  | .aaload => some (10, 4, 0)
  | .iastore => some (11, 0, 0)
  | .lastore => some (11, 1, 0)
  | .bastore => some (11, 2, 0)
  | .aastore => some (11, 4, 0)
  | .invokestatic x => match lk4 vS0 (mO M) x with
    | some s => some (12, s, 0)
    | none => match lk4 vS1 (mO M) x with
      | some s => some (12, s, 0)
      | none => match lk4 mal (mO M) x with
        | some s => some (32, s, 0)
        | none => match lk4 aclt (mO M) x with
          | some _ => some (29, 0, 0)
          | none => (lk4 acrt (mO M) x).map (fun _ => (35, 0, 0))
  | .invokespecial x => match lk4 vP2 (mO M) x with
    | some s => some (12, s, 0)
    | none => match lk4 vP3 (mO M) x with
      | some s => some (12, s, 0)
      | none => (lk4 olt (mO M) x).map (fun _ => (30, 0, 0))
  | .invokevirtual x => match lk4 vVV (mO M) x with
    | some s => some (12, s, 0)
    | none => match lk4 cllt (mO M) x with
      | some _ => some (31, 0, 0)
      | none => (lk4 gclt (mO M) x).map (fun _ => (33, 0, 0))
  | .return_ => if mR M = none then some (13, 0, 0) else none
  | .ireturn => if mR M = some .int then some (13, 1, 0) else if mR M = some .boolean then some (13, 4, 0) else none
  | .lreturn => if mR M = some .long then some (13, 2, 0) else none
  | .areturn => match mR M with
    | some (.object _) => some (13, 3, 0)
    | some (.array _) => some (13, 3, 0)
    | _ => none
  | .ladd => some (15, 0, 0)
  | .lsub => some (15, 1, 0)
  | .lmul => some (15, 2, 0)
  | .ldiv => some (15, 3, 0)
  | .i2l => some (16, 0, 0)
  | .l2i => some (16, 1, 0)
  | .i2b => some (16, 2, 0)
  | .i2s => some (16, 3, 0)
  | .ineg => some (16, 4, 0)
  | .lcmp => some (17, 0, 0)
  | .dup => some (18, 0, 0)
  | .pop => some (18, 1, 0)
  | .pop2 => some (18, 4, 0)
  | .dup_x1 => some (18, 2, 0)
  | .dup2 => some (18, 3, 0)
  | .aconst_null => some (19, 0, 0)
  | .ifnull off => tgt pc off 0 20
  | .ifnonnull off => tgt pc off 1 20
  | .if_acmp c off => tgt pc off (match c with | .eq => 0 | .ne => 1) 21
  | .arraylength => some (23, 0, 0)
  | .newarray t => match t with
    | .int => some (24, 20, 0)
    | .long => some (24, 21, 0)
    | .boolean => some (24, 22, 0)
    | _ => none
  | .anewarray x => (lk4 alt (mO M) x).map (fun k => (25, k, 0))
  | .new x => (lk4 nlt (mO M) x).map (fun k => (26, k, 0))
  | .getstatic x => (lk4 slt (mO M) x).map (fun k => (27, k, 0))
  | .checkcast x => match lk4 nlt (mO M) x with
    | some k => some (28, k, 0)
    | none => (lk4 ilt (mO M) x).map (fun k => (28, k, 0))
  | _ => none
noncomputable def ilen (i : Instr) : Nat := match i with
  | .bipush _ => 2
  | .ldc _ => 2
  | .iload _ => 2
  | .lload _ => 2
  | .aload _ => 2
  | .istore _ => 2
  | .lstore _ => 2
  | .astore _ => 2
  | .newarray _ => 2
  | .sipush _ => 3
  | .ldc_w _ => 3
  | .ldc2_w _ => 3
  | .iinc _ _ => 3
  | .if_icmp _ _ => 3
  | .ifCond _ _ => 3
  | .goto _ => 3
  | .getfield _ => 3
  | .putfield _ => 3
  | .getstatic _ => 3
  | .invokevirtual _ => 3
  | .invokespecial _ => 3
  | .invokestatic _ => 3
  | .ifnull _ => 3
  | .ifnonnull _ => 3
  | .if_acmp _ _ => 3
  | .anewarray _ => 3
  | .new _ => 3
  | .checkcast _ => 3
  | _ => 1
def SwOK (M pc a : Nat) : Prop := ∃ (d lo hi : Int) (offs : Array Int) (n dn : Nat) (ts : List Nat), decode (mB M) pc = .ok (.tableswitch d lo hi offs, n) ∧ swt[a]? = some (lo, hi, dn, ts) ∧ (pc : Int) + d = (dn : Int) ∧ offs.toList.map (fun o => (pc : Int) + o) = ts.map (fun t => ((t : Nat) : Int))
/-- what is known of an instruction of a method: its decoding, or that it's a switch of the table -/
def Lk (M pc nx : Nat) (ai : AI) : Prop :=
  (∃ i, decode (mB M) pc = .ok (i, ilen i) ∧ nx = pc + ilen i ∧ tr M pc i = some ai) ∨ (ai.1 = 22 ∧ SwOK M pc ai.2.1) ∨ ai.1 = 99
/-- the bytes of a method against its plain form -/
noncomputable def chk (M : Nat) : List UInt8 → List (Nat × AI) → Bool
  | _, [] => true
  | bs, (pc, ai) :: tl =>
    let nx := (match tl with | [] => pc + bs.length | (q, _) :: _ => q)
    (ai.1 == 99 || ((ai.1 == 22 && (ai.2.2 == 0 && swl.contains (M, pc, ai.2.1))) || (match par bs with
      | some (i, n) => decide (n = ilen i) && (decide (nx = pc + n) && decide (tr M pc i = some ai))
      | none => false))) && (decide (pc ≤ nx) && chk M (bs.drop (nx - pc)) tl)
