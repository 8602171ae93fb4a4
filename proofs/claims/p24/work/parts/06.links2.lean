theorem ck_vS0 : ssq (vS0.map (fun e => .methodLink (on e.1) e.2.1 (site e.2.2.2).1)) tb = true := by decide +kernel
theorem ck_vP2 : ssq (vP2.map (fun e => .methodLink (on e.1) e.2.1 (site e.2.2.2).1)) tb = true := by decide +kernel
theorem ck_vVV : ssq (vVV.map (fun e => .methodLink (on e.1) e.2.1 (site e.2.2.2).1)) tb = true := by decide +kernel
theorem ck_vS1 : ssq (vS1.map (fun e => .methodLinkNest (on e.1) e.2.1 (site e.2.2.2).1 "SkipCity")) tb = true := by decide +kernel
theorem ck_vP3 : ssq (vP3.map (fun e => .methodLinkNest (on e.1) e.2.1 (site e.2.2.2).1 "SkipCity")) tb = true := by decide +kernel
theorem ck_olt : ssq (olt.map (fun e => .methodLink (on e.1) e.2.1 Lib.objectInit)) tb = true := by decide +kernel
theorem ck_obj : ssq [.instanceMethod Lib.objectInit] tb = true := by decide +kernel
theorem ck_obj2 : ssq [.code Lib.objectInit ⟨#[0xb1]⟩ 1 none] tb = true := by decide +kernel
theorem ck_aclt : ssq (aclt.map (fun e => .methodLink (on e.1) e.2.1 arraycopyName)) tb = true := by decide +kernel
theorem ck_acp : ssq [.native arraycopyName] tb = true := by decide +kernel
theorem ck_acp2 : ssq [.static arraycopyName] tb = true := by decide +kernel
theorem ck_acp3 : ssq [.initialized "java/lang/System"] tb = true := by decide +kernel
theorem ck_fks : (List.range 200).all (fun f => (fks f).all (fun k => decide (k < 13) && (decide (fpos f < kNn k) && (decide ((kT k (fpos f)).2.1 = (fr f).2.1) && (decide ((kT k (fpos f)).2.2.1 = (fr f).2.2.1) && (decide ((kT k (fpos f)).1 = (fr f).1) || sfl.any (fun x => decide (x = ((fr f).1, (kT k (fpos f)).1, (fr f).2.1, (fr f).2.2.1))))))))) = true := by decide +kernel
theorem ck_k : (List.range 13).all (fun k => kil.contains k && (inl.contains (kNm k) && ((List.range (kNn k)).all (fun j => kll.contains (k, j))))) = true := by decide +kernel
theorem ck_dty : (List.range 13).all (fun k => (List.range (kNn k)).all (fun j => decide (parseFieldDescriptor (kT k j).2.2.1 = some (dty (kT k j).2.2.1)))) = true := by decide +kernel
theorem ck_nm : (List.range 13).all (fun k => (List.range (kNn k)).all (fun a => (List.range (kNn k)).all (fun b => a == b || decide (¬ (kT k a).2.1 = (kT k b).2.1)))) = true := by decide +kernel
theorem ck_a1 : (List.range nM).all (fun M => plainName (mY M).cls) = true := by decide +kernel
theorem ck_a2 : (List.range nM).all (fun M => (decide ((mY M).cls ≠ "java/lang/invoke/MethodHandle") && (decide ((mY M).cls ≠ "java/lang/invoke/VarHandle")))) = true := by decide +kernel
theorem ck_a3 : (List.range nM).all (fun M => decide (on (mO M) = (mY M).cls)) = true := by decide +kernel
theorem ck_a4 : (List.range nM).all (fun M => decide ((parseMethodDescriptor (mY M).desc).map (fun d => d.parameters.length) = some (mN M))) = true := by decide +kernel
theorem ck_a5 : (List.range nM).all (fun M => M == mLaw || (cdl.contains M && inl.contains (mY M).cls)) = true := by decide +kernel
theorem ck_ma : ssq (mal.map (fun e => .methodLink (on e.1) e.2.1 (if e.2.2.1 = 0 then Lib.Math.max.name else if e.2.2.1 = 1 then Lib.Math.min.name else Lib.Math.abs.name))) tb = true := by decide +kernel
theorem ck_m0 : (ssq [.static Lib.Math.max.name] tb && (ssq [.static Lib.Math.min.name] tb && (ssq [.static Lib.Math.abs.name] tb && ssq [.initialized "java/lang/Math"] tb))) = true := by decide +kernel
theorem ck_m1 : (ssq [.code Lib.Math.max.name Lib.Math.max.code 2 (some .int)] tb && (ssq [.code Lib.Math.min.name Lib.Math.min.code 2 (some .int)] tb && ssq [.code Lib.Math.abs.name Lib.Math.abs.code 1 (some .int)] tb)) = true := by decide +kernel
noncomputable def gclN : MethodName := ⟨"java/lang/Object", "getClass", "()Ljava/lang/Class;"⟩
theorem ck_acrt : ssq (acrt.map (fun e => .methodLink (on e.1) e.2.1 arraycopyName)) tb = true := by decide +kernel
theorem ck_gclt : ssq (gclt.map (fun e => .methodLink (on e.1) e.2.1 gclN)) tb = true := by decide +kernel
theorem ck_mirt : ssq (mirt.map (fun e => .classLink (on e.1) e.2.1 "[Ljava/lang/Object;")) tb = true := by decide +kernel
theorem ck_gc : (ssq [.sameMethod "java/lang/Object" "java/lang/Object" "getClass" "()Ljava/lang/Class;"] tb && (ssq [.native gclN] tb && (ssq [.instanceMethod gclN] tb && ssq [.selects "[Ljava/lang/Object;" gclN gclN] tb))) = true := by decide +kernel
