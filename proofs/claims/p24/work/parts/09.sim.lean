/-! ===== the machine follows the plain machine: one instruction ===== -/
theorem nx_inj {lv lv' : LV} {st st' : List Value} {h h' : AH} {j : Option Nat} (e : nx lv st h = some (.inl (j, lv', st', h'))) : j = none ∧ lv' = lv ∧ st' = st ∧ h' = h := by
  unfold nx at e
  cases e
  exact ⟨rfl, rfl, rfl, rfl⟩
theorem jp_inj {t : Int} {lv lv' : LV} {st st' : List Value} {h h' : AH} {j : Option Nat} (e : jp t lv st h = some (.inl (j, lv', st', h'))) : j = some t.toNat ∧ lv' = lv ∧ st' = st ∧ h' = h := by
  unfold jp at e
  cases e
  exact ⟨rfl, rfl, rfl, rfl⟩
theorem lvg_at {ls : Array Slot} {n i : Nat} {lv : LV} {v : Value} (hl : lv_has ls n lv) (h : lv_get i lv = some v) : ls[i]? = some (.val v) := by
  unfold lv_get at h
  obtain ⟨⟨a, b⟩, h1, h2⟩ := Option.map_eq_some_iff.mp h
  have h3 := List.find?_some h1
  simp only [beq_iff_eq] at h3
  dsimp only at h2
  subst h3
  subst h2
  exact hl.2.2 _ (List.mem_of_find?_eq_some h1)
theorem lvg_ix {i : Nat} {lv : LV} {v : Value} (h : lv_get i lv = some v) : ∃ k : Nat, lv[k]? = some (i, v) := by
  unfold lv_get at h
  obtain ⟨⟨a, b⟩, h1, h2⟩ := Option.map_eq_some_iff.mp h
  have h3 := List.find?_some h1
  simp only [beq_iff_eq] at h3
  dsimp only at h2
  subst h3
  subst h2
  exact List.getElem?_of_mem (List.mem_of_find?_eq_some h1)
theorem lvp_1 {i : Nat} {v : Value} {lv : LV} (h : v.category = 1) : (i, v) :: lv.filter (fun q => !(q.1 == i) && !(q.1 + 1 == i && q.2.category == 2)) = lv_put i v lv := by
  unfold lv_put
  simp [h]
theorem lvp_2 {i : Nat} {v : Value} {lv : LV} (h : v.category = 2) : (i, v) :: lv.filter (fun q => !(q.1 == i) && (!(q.1 == i + 1) && !(q.1 + 1 == i && q.2.category == 2))) = lv_put i v lv := by
  unfold lv_put
  simp [h]
/-- the Class object of Object[] -/
def MirOK (s : State) (a : Nat) : Prop := ∃ c k, s.vm.findClass "[Ljava/lang/Object;" = some c ∧ s.vm.classes[c]? = some k ∧ k.mirror = some a
theorem MirOK.moved {s U : State} {a : Nat} (hvm : s.vm.Alike U.vm) (h : MirOK s a) : MirOK U a := by
  obtain ⟨c, k, h1, h2, h3⟩ := h
  obtain ⟨k', hk', he⟩ := hvm.2.2 _ _ h2
  exact ⟨c, k', by rw [hvm.findClass]; exact h1, hk', by rw [he]; exact h3⟩
theorem MirOK.ev {s : State} {a : Nat} {args : Array Value} (h : MirOK s a) : (Term.mirror "[Ljava/lang/Object;").eval args s none [] s = some (.ref a) := by
  obtain ⟨c, k, h1, h2, h3⟩ := h
  simp [Term.eval, h1, h2, h3]
def Ctx (p : Program) (s : State) (m : MethodId) (args : Array Value) (meth : Method) (c : Code) (base : Nat) (D : va_G) (σ : Nat → Nat) (M : Nat) : Prop :=
  p.tables.exec = Jvm.exec ∧ c.code = mB M ∧ c.maxLocals = mL M ∧ s.vm.findClass (on (mO M)) = some m.cls ∧ (∀ w ∈ gt, w.before args s = true) ∧ (∀ w ∈ xw, va_Nw w s) ∧ va_K D cls [] s ∧ ((mY M).name = "<init>" → meth.name = "<init>") ∧ (∀ i, i < 6 → va_Z (st3 i).1 (st3 i).2.1 (st3 i).2.2 (.ref (σ i)) (fun q => base ≤ q) s s.heap) ∧ M < nM ∧ MirOK s (σ 6)
section SIM
variable {p : Program} {l : Launch} {e : Env} {R : Room} {s : State} {m : MethodId} {args : Array Value} {below : List Frame} {meth : Method} {c : Code} {H : Heap} {locs : List Loc} {Q : State → Prop} {base c0 s0 M pc nxp : Nat} {D : va_G} {σ : Nat → Nat} {ls : Array Slot} {lv lv' : LV} {st st' : List Value} {h h' : AH} {j : Option Nat}
/-- from here on, whatever the machine's own heap and locals are -/
def KK (p : Program) (l : Launch) (e : Env) (R : Room) (s : State) (m : MethodId) (args : Array Value) (below : List Frame) (meth : Method) (c : Code) (Q : State → Prop) (base : Nat) (D : va_G) (M c0 s0 pc : Nat) (lv : LV) (st : List Value) (h : AH) : Prop :=
  ∀ (H : Heap) (locs : List Loc) (ls : Array Slot), Rep base D s H h → va_S (fun q => base ≤ q) s.heap H locs → lv_has ls (mL M) lv → W p l e R s m args below meth c H locs (h.2.1 - c0) (h.2.2 - s0) Q (F0 m pc ls st)


theorem si_iconst {v : Int} (hx : p.tables.exec = Jvm.exec) (hb : c.code = mB M) (hd : decode (mB M) pc = .ok (.iconst v, 1)) (hst : nx lv (.int (Int32.ofInt v) :: st) h = some (.inl (j, lv', st', h'))) (kk : KK p l e R s m args below meth c Q base D M c0 s0 (j.getD (pc + 1)) lv' st' h') : KK p l e R s m args below meth c Q base D M c0 s0 pc lv st h := by
  intro H locs ls hR hS hl
  obtain ⟨rfl, rfl, rfl, rfl⟩ := nx_inj hst
  exact lv_iconst hx hb hd rfl (kk H locs ls hR hS hl)
theorem si_bipush {v : Int} (hx : p.tables.exec = Jvm.exec) (hb : c.code = mB M) (hd : decode (mB M) pc = .ok (.bipush v, 2)) (hv : (Int8.ofInt v).toInt32 = Int32.ofInt v) (hst : nx lv (.int (Int32.ofInt v) :: st) h = some (.inl (j, lv', st', h'))) (kk : KK p l e R s m args below meth c Q base D M c0 s0 (j.getD (pc + 2)) lv' st' h') : KK p l e R s m args below meth c Q base D M c0 s0 pc lv st h := by
  intro H locs ls hR hS hl
  obtain ⟨rfl, rfl, rfl, rfl⟩ := nx_inj hst
  exact lv_bipush hx hb hd hv (kk H locs ls hR hS hl)
theorem si_sipush {v : Int} (hx : p.tables.exec = Jvm.exec) (hb : c.code = mB M) (hd : decode (mB M) pc = .ok (.sipush v, 3)) (hv : (Int16.ofInt v).toInt32 = Int32.ofInt v) (hst : nx lv (.int (Int32.ofInt v) :: st) h = some (.inl (j, lv', st', h'))) (kk : KK p l e R s m args below meth c Q base D M c0 s0 (j.getD (pc + 3)) lv' st' h') : KK p l e R s m args below meth c Q base D M c0 s0 pc lv st h := by
  intro H locs ls hR hS hl
  obtain ⟨rfl, rfl, rfl, rfl⟩ := nx_inj hst
  exact lv_sipush hx hb hd hv (kk H locs ls hR hS hl)
theorem si_lconst {v : Fin 2} (hx : p.tables.exec = Jvm.exec) (hb : c.code = mB M) (hd : decode (mB M) pc = .ok (.lconst v, 1)) (hst : nx lv (.long (Int64.ofInt ((v : Nat) : Int)) :: st) h = some (.inl (j, lv', st', h'))) (kk : KK p l e R s m args below meth c Q base D M c0 s0 (j.getD (pc + 1)) lv' st' h') : KK p l e R s m args below meth c Q base D M c0 s0 pc lv st h := by
  intro H locs ls hR hS hl
  obtain ⟨rfl, rfl, rfl, rfl⟩ := nx_inj hst
  exact lv_lconst hx hb hd rfl (kk H locs ls hR hS hl)
theorem si_null (hx : p.tables.exec = Jvm.exec) (hb : c.code = mB M) (hd : decode (mB M) pc = .ok (.aconst_null, 1)) (hst : nx lv (.null :: st) h = some (.inl (j, lv', st', h'))) (kk : KK p l e R s m args below meth c Q base D M c0 s0 (j.getD (pc + 1)) lv' st' h') : KK p l e R s m args below meth c Q base D M c0 s0 pc lv st h := by
  intro H locs ls hR hS hl
  obtain ⟨rfl, rfl, rfl, rfl⟩ := nx_inj hst
  exact lv_null hx hb hd (kk H locs ls hR hS hl)
theorem si_ldc {x : Nat} {v : Int} {own : String} (hx : p.tables.exec = Jvm.exec) (hb : c.code = mB M) (hd : decode (mB M) pc = .ok (.ldc x, 2)) (ho : s.vm.findClass own = some m.cls) (hw : (Jvm.Cond.constant own x (Int32.ofInt v)).before args s = true) (hst : nx lv (.int (Int32.ofInt v) :: st) h = some (.inl (j, lv', st', h'))) (kk : KK p l e R s m args below meth c Q base D M c0 s0 (j.getD (pc + 2)) lv' st' h') : KK p l e R s m args below meth c Q base D M c0 s0 pc lv st h := by
  intro H locs ls hR hS hl
  obtain ⟨rfl, rfl, rfl, rfl⟩ := nx_inj hst
  exact lv_ldc hx hb ho hw hd (kk H locs ls hR hS hl)
theorem si_ldc_w {x : Nat} {v : Int} {own : String} (hx : p.tables.exec = Jvm.exec) (hb : c.code = mB M) (hd : decode (mB M) pc = .ok (.ldc_w x, 3)) (ho : s.vm.findClass own = some m.cls) (hw : (Jvm.Cond.constant own x (Int32.ofInt v)).before args s = true) (hst : nx lv (.int (Int32.ofInt v) :: st) h = some (.inl (j, lv', st', h'))) (kk : KK p l e R s m args below meth c Q base D M c0 s0 (j.getD (pc + 3)) lv' st' h') : KK p l e R s m args below meth c Q base D M c0 s0 pc lv st h := by
  intro H locs ls hR hS hl
  obtain ⟨rfl, rfl, rfl, rfl⟩ := nx_inj hst
  exact lv_ldcw hx hb ho hw hd (kk H locs ls hR hS hl)
theorem si_ldc2 {x : Nat} {v : Int} {own : String} (hx : p.tables.exec = Jvm.exec) (hb : c.code = mB M) (hd : decode (mB M) pc = .ok (.ldc2_w x, 3)) (ho : s.vm.findClass own = some m.cls) (hw : (Jvm.Cond.constantLong own x (Int64.ofInt v)).before args s = true) (hst : nx lv (.long (Int64.ofInt v) :: st) h = some (.inl (j, lv', st', h'))) (kk : KK p l e R s m args below meth c Q base D M c0 s0 (j.getD (pc + 3)) lv' st' h') : KK p l e R s m args below meth c Q base D M c0 s0 pc lv st h := by
  intro H locs ls hR hS hl
  obtain ⟨rfl, rfl, rfl, rfl⟩ := nx_inj hst
  exact lv_ldc2 hx hb ho hw hd (kk H locs ls hR hS hl)
theorem si_iload_n {k : Fin 4} (hx : p.tables.exec = Jvm.exec) (hb : c.code = mB M) (hd : decode (mB M) pc = .ok (.iload_n k, 1)) (hst : s_load k 0 lv st h = some (.inl (j, lv', st', h'))) (kk : KK p l e R s m args below meth c Q base D M c0 s0 (j.getD (pc + 1)) lv' st' h') : KK p l e R s m args below meth c Q base D M c0 s0 pc lv st h := by
  intro H locs ls hR hS hl
  unfold s_load at hst
  cases hv : lv_get k lv with
  | none => rw [hv] at hst; cases hst
  | some v =>
    rw [hv] at hst
    dsimp only at hst
    split at hst
    · rename_i ht
      obtain ⟨rfl, rfl, rfl, rfl⟩ := nx_inj hst
      cases v <;> first | (cases ht; done) | skip
      · exact lv_iload_n hx hb hd rfl (lvg_at hl hv) (kk H locs ls hR hS hl)
    · cases hst
theorem si_iload {k : Nat} (hx : p.tables.exec = Jvm.exec) (hb : c.code = mB M) (hd : decode (mB M) pc = .ok (.iload k, 2)) (hst : s_load k 0 lv st h = some (.inl (j, lv', st', h'))) (kk : KK p l e R s m args below meth c Q base D M c0 s0 (j.getD (pc + 2)) lv' st' h') : KK p l e R s m args below meth c Q base D M c0 s0 pc lv st h := by
  intro H locs ls hR hS hl
  unfold s_load at hst
  cases hv : lv_get k lv with
  | none => rw [hv] at hst; cases hst
  | some v =>
    rw [hv] at hst
    dsimp only at hst
    split at hst
    · rename_i ht
      obtain ⟨rfl, rfl, rfl, rfl⟩ := nx_inj hst
      cases v <;> first | (cases ht; done) | skip
      · exact lv_iload hx hb hd (lvg_at hl hv) (kk H locs ls hR hS hl)
    · cases hst
theorem si_lload_n {k : Fin 4} (hx : p.tables.exec = Jvm.exec) (hb : c.code = mB M) (hd : decode (mB M) pc = .ok (.lload_n k, 1)) (hst : s_load k 1 lv st h = some (.inl (j, lv', st', h'))) (kk : KK p l e R s m args below meth c Q base D M c0 s0 (j.getD (pc + 1)) lv' st' h') : KK p l e R s m args below meth c Q base D M c0 s0 pc lv st h := by
  intro H locs ls hR hS hl
  unfold s_load at hst
  cases hv : lv_get k lv with
  | none => rw [hv] at hst; cases hst
  | some v =>
    rw [hv] at hst
    dsimp only at hst
    split at hst
    · rename_i ht
      obtain ⟨rfl, rfl, rfl, rfl⟩ := nx_inj hst
      cases v <;> first | (cases ht; done) | skip
      · exact lv_lload_n hx hb hd rfl (lvg_at hl hv) (kk H locs ls hR hS hl)
    · cases hst
theorem si_lload {k : Nat} (hx : p.tables.exec = Jvm.exec) (hb : c.code = mB M) (hd : decode (mB M) pc = .ok (.lload k, 2)) (hst : s_load k 1 lv st h = some (.inl (j, lv', st', h'))) (kk : KK p l e R s m args below meth c Q base D M c0 s0 (j.getD (pc + 2)) lv' st' h') : KK p l e R s m args below meth c Q base D M c0 s0 pc lv st h := by
  intro H locs ls hR hS hl
  unfold s_load at hst
  cases hv : lv_get k lv with
  | none => rw [hv] at hst; cases hst
  | some v =>
    rw [hv] at hst
    dsimp only at hst
    split at hst
    · rename_i ht
      obtain ⟨rfl, rfl, rfl, rfl⟩ := nx_inj hst
      cases v <;> first | (cases ht; done) | skip
      · exact lv_lload hx hb hd (lvg_at hl hv) (kk H locs ls hR hS hl)
    · cases hst
theorem si_aload_n {k : Fin 4} (hx : p.tables.exec = Jvm.exec) (hb : c.code = mB M) (hd : decode (mB M) pc = .ok (.aload_n k, 1)) (hst : s_load k 2 lv st h = some (.inl (j, lv', st', h'))) (kk : KK p l e R s m args below meth c Q base D M c0 s0 (j.getD (pc + 1)) lv' st' h') : KK p l e R s m args below meth c Q base D M c0 s0 pc lv st h := by
  intro H locs ls hR hS hl
  unfold s_load at hst
  cases hv : lv_get k lv with
  | none => rw [hv] at hst; cases hst
  | some v =>
    rw [hv] at hst
    dsimp only at hst
    split at hst
    · rename_i ht
      obtain ⟨rfl, rfl, rfl, rfl⟩ := nx_inj hst
      cases v <;> first | (cases ht; done) | skip
      · exact lv_aload_nN hx hb hd rfl (lvg_at hl hv) (kk H locs ls hR hS hl)
      · exact lv_aload_n hx hb hd rfl (lvg_at hl hv) (kk H locs ls hR hS hl)
    · cases hst
theorem si_aload {k : Nat} (hx : p.tables.exec = Jvm.exec) (hb : c.code = mB M) (hd : decode (mB M) pc = .ok (.aload k, 2)) (hst : s_load k 2 lv st h = some (.inl (j, lv', st', h'))) (kk : KK p l e R s m args below meth c Q base D M c0 s0 (j.getD (pc + 2)) lv' st' h') : KK p l e R s m args below meth c Q base D M c0 s0 pc lv st h := by
  intro H locs ls hR hS hl
  unfold s_load at hst
  cases hv : lv_get k lv with
  | none => rw [hv] at hst; cases hst
  | some v =>
    rw [hv] at hst
    dsimp only at hst
    split at hst
    · rename_i ht
      obtain ⟨rfl, rfl, rfl, rfl⟩ := nx_inj hst
      cases v <;> first | (cases ht; done) | skip
      · exact lv_aloadN hx hb hd (lvg_at hl hv) (kk H locs ls hR hS hl)
      · exact lv_aload hx hb hd (lvg_at hl hv) (kk H locs ls hR hS hl)
    · cases hst
theorem si_istore_n {k : Fin 4} (hx : p.tables.exec = Jvm.exec) (hb : c.code = mB M) (hd : decode (mB M) pc = .ok (.istore_n k, 1)) (hk : (k : Nat) < mL M) (hst : s_store k 0 lv st h = some (.inl (j, lv', st', h'))) (kk : KK p l e R s m args below meth c Q base D M c0 s0 (j.getD (pc + 1)) lv' st' h') : KK p l e R s m args below meth c Q base D M c0 s0 pc lv st h := by
  intro H locs ls hR hS hl
  unfold s_store at hst
  cases st with
  | nil => cases hst
  | cons v r =>
    dsimp only at hst
    split at hst
    · rename_i ht
      obtain ⟨rfl, rfl, rfl, rfl⟩ := nx_inj hst
      cases v <;> first | (cases ht; done) | skip
      · exact lv_istore_n hx hb hd rfl hl hk (lvp_1 rfl) (fun ls' hl' => kk H locs ls' hR hS hl')
    · cases hst
theorem si_istore {k : Nat} (hx : p.tables.exec = Jvm.exec) (hb : c.code = mB M) (hd : decode (mB M) pc = .ok (.istore k, 2)) (hk : (k : Nat) < mL M) (hst : s_store k 0 lv st h = some (.inl (j, lv', st', h'))) (kk : KK p l e R s m args below meth c Q base D M c0 s0 (j.getD (pc + 2)) lv' st' h') : KK p l e R s m args below meth c Q base D M c0 s0 pc lv st h := by
  intro H locs ls hR hS hl
  unfold s_store at hst
  cases st with
  | nil => cases hst
  | cons v r =>
    dsimp only at hst
    split at hst
    · rename_i ht
      obtain ⟨rfl, rfl, rfl, rfl⟩ := nx_inj hst
      cases v <;> first | (cases ht; done) | skip
      · exact lv_istore hx hb hd hl hk (lvp_1 rfl) (fun ls' hl' => kk H locs ls' hR hS hl')
    · cases hst
theorem si_lstore_n {k : Fin 4} (hx : p.tables.exec = Jvm.exec) (hb : c.code = mB M) (hd : decode (mB M) pc = .ok (.lstore_n k, 1)) (hk : (k : Nat) + 1 < mL M) (hst : s_store k 1 lv st h = some (.inl (j, lv', st', h'))) (kk : KK p l e R s m args below meth c Q base D M c0 s0 (j.getD (pc + 1)) lv' st' h') : KK p l e R s m args below meth c Q base D M c0 s0 pc lv st h := by
  intro H locs ls hR hS hl
  unfold s_store at hst
  cases st with
  | nil => cases hst
  | cons v r =>
    dsimp only at hst
    split at hst
    · rename_i ht
      obtain ⟨rfl, rfl, rfl, rfl⟩ := nx_inj hst
      cases v <;> first | (cases ht; done) | skip
      · exact lv_lstore_n hx hb hd rfl hl hk (lvp_2 rfl) (fun ls' hl' => kk H locs ls' hR hS hl')
    · cases hst
theorem si_lstore {k : Nat} (hx : p.tables.exec = Jvm.exec) (hb : c.code = mB M) (hd : decode (mB M) pc = .ok (.lstore k, 2)) (hk : (k : Nat) + 1 < mL M) (hst : s_store k 1 lv st h = some (.inl (j, lv', st', h'))) (kk : KK p l e R s m args below meth c Q base D M c0 s0 (j.getD (pc + 2)) lv' st' h') : KK p l e R s m args below meth c Q base D M c0 s0 pc lv st h := by
  intro H locs ls hR hS hl
  unfold s_store at hst
  cases st with
  | nil => cases hst
  | cons v r =>
    dsimp only at hst
    split at hst
    · rename_i ht
      obtain ⟨rfl, rfl, rfl, rfl⟩ := nx_inj hst
      cases v <;> first | (cases ht; done) | skip
      · exact lv_lstore hx hb hd hl hk (lvp_2 rfl) (fun ls' hl' => kk H locs ls' hR hS hl')
    · cases hst
theorem si_astore_n {k : Fin 4} (hx : p.tables.exec = Jvm.exec) (hb : c.code = mB M) (hd : decode (mB M) pc = .ok (.astore_n k, 1)) (hk : (k : Nat) < mL M) (hst : s_store k 2 lv st h = some (.inl (j, lv', st', h'))) (kk : KK p l e R s m args below meth c Q base D M c0 s0 (j.getD (pc + 1)) lv' st' h') : KK p l e R s m args below meth c Q base D M c0 s0 pc lv st h := by
  intro H locs ls hR hS hl
  unfold s_store at hst
  cases st with
  | nil => cases hst
  | cons v r =>
    dsimp only at hst
    split at hst
    · rename_i ht
      obtain ⟨rfl, rfl, rfl, rfl⟩ := nx_inj hst
      cases v <;> first | (cases ht; done) | skip
      · exact lv_astore_nN hx hb hd rfl hl hk (lvp_1 rfl) (fun ls' hl' => kk H locs ls' hR hS hl')
      · exact lv_astore_n hx hb hd rfl hl hk (lvp_1 rfl) (fun ls' hl' => kk H locs ls' hR hS hl')
    · cases hst
theorem si_astore {k : Nat} (hx : p.tables.exec = Jvm.exec) (hb : c.code = mB M) (hd : decode (mB M) pc = .ok (.astore k, 2)) (hk : (k : Nat) < mL M) (hst : s_store k 2 lv st h = some (.inl (j, lv', st', h'))) (kk : KK p l e R s m args below meth c Q base D M c0 s0 (j.getD (pc + 2)) lv' st' h') : KK p l e R s m args below meth c Q base D M c0 s0 pc lv st h := by
  intro H locs ls hR hS hl
  unfold s_store at hst
  cases st with
  | nil => cases hst
  | cons v r =>
    dsimp only at hst
    split at hst
    · rename_i ht
      obtain ⟨rfl, rfl, rfl, rfl⟩ := nx_inj hst
      cases v <;> first | (cases ht; done) | skip
      · exact lv_astoreN hx hb hd hl hk (lvp_1 rfl) (fun ls' hl' => kk H locs ls' hR hS hl')
      · exact lv_astore hx hb hd hl hk (lvp_1 rfl) (fun ls' hl' => kk H locs ls' hR hS hl')
    · cases hst
theorem si_iinc {k : Nat} {v : Int} (hx : p.tables.exec = Jvm.exec) (hb : c.code = mB M) (hd : decode (mB M) pc = .ok (.iinc k v, 3)) (hk : k < mL M) (hst : s_iinc k v lv st h = some (.inl (j, lv', st', h'))) (kk : KK p l e R s m args below meth c Q base D M c0 s0 (j.getD (pc + 3)) lv' st' h') : KK p l e R s m args below meth c Q base D M c0 s0 pc lv st h := by
  intro H locs ls hR hS hl
  unfold s_iinc at hst
  cases hv : lv_get k lv with
  | none => rw [hv] at hst; cases hst
  | some u =>
    rw [hv] at hst
    cases u <;> first | (cases hst; done) | skip
    obtain ⟨rfl, rfl, rfl, rfl⟩ := nx_inj hst
    obtain ⟨q, hq⟩ := lvg_ix hv
    exact lv_iinc hx hb hd hl hq rfl hk (lvp_1 rfl) (fun ls' hl' => kk H locs ls' hR hS hl')
theorem si_iadd (hx : p.tables.exec = Jvm.exec) (hb : c.code = mB M) (hd : decode (mB M) pc = .ok (.iadd, 1)) (hst : s_ibin 0 lv st h = some (.inl (j, lv', st', h'))) (kk : KK p l e R s m args below meth c Q base D M c0 s0 (j.getD (pc + 1)) lv' st' h') : KK p l e R s m args below meth c Q base D M c0 s0 pc lv st h := by
  intro H locs ls hR hS hl
  unfold s_ibin at hst
  split at hst
  · dsimp only [ibin] at hst
    obtain ⟨rfl, rfl, rfl, rfl⟩ := nx_inj hst
    exact lv_iadd hx hb hd (kk H locs ls hR hS hl)
  · cases hst
theorem si_isub (hx : p.tables.exec = Jvm.exec) (hb : c.code = mB M) (hd : decode (mB M) pc = .ok (.isub, 1)) (hst : s_ibin 1 lv st h = some (.inl (j, lv', st', h'))) (kk : KK p l e R s m args below meth c Q base D M c0 s0 (j.getD (pc + 1)) lv' st' h') : KK p l e R s m args below meth c Q base D M c0 s0 pc lv st h := by
  intro H locs ls hR hS hl
  unfold s_ibin at hst
  split at hst
  · dsimp only [ibin] at hst
    obtain ⟨rfl, rfl, rfl, rfl⟩ := nx_inj hst
    exact lv_isub hx hb hd (kk H locs ls hR hS hl)
  · cases hst
theorem si_imul (hx : p.tables.exec = Jvm.exec) (hb : c.code = mB M) (hd : decode (mB M) pc = .ok (.imul, 1)) (hst : s_ibin 2 lv st h = some (.inl (j, lv', st', h'))) (kk : KK p l e R s m args below meth c Q base D M c0 s0 (j.getD (pc + 1)) lv' st' h') : KK p l e R s m args below meth c Q base D M c0 s0 pc lv st h := by
  intro H locs ls hR hS hl
  unfold s_ibin at hst
  split at hst
  · dsimp only [ibin] at hst
    obtain ⟨rfl, rfl, rfl, rfl⟩ := nx_inj hst
    exact lv_imul hx hb hd (kk H locs ls hR hS hl)
  · cases hst
theorem si_idiv (hx : p.tables.exec = Jvm.exec) (hb : c.code = mB M) (hd : decode (mB M) pc = .ok (.idiv, 1)) (hst : s_ibin 3 lv st h = some (.inl (j, lv', st', h'))) (kk : KK p l e R s m args below meth c Q base D M c0 s0 (j.getD (pc + 1)) lv' st' h') : KK p l e R s m args below meth c Q base D M c0 s0 pc lv st h := by
  intro H locs ls hR hS hl
  unfold s_ibin at hst
  split at hst
  · rename_i y x r
    rw [show ibin 3 x y = (if y = 0 then none else some (x / y)) from rfl] at hst
    by_cases hne : y = 0
    · rw [if_pos hne] at hst; cases hst
    · rw [if_neg hne] at hst
      obtain ⟨rfl, rfl, rfl, rfl⟩ := nx_inj hst
      exact lv_idiv hx hb hd hne (kk H locs ls hR hS hl)
  · cases hst
theorem si_irem (hx : p.tables.exec = Jvm.exec) (hb : c.code = mB M) (hd : decode (mB M) pc = .ok (.irem, 1)) (hst : s_ibin 4 lv st h = some (.inl (j, lv', st', h'))) (kk : KK p l e R s m args below meth c Q base D M c0 s0 (j.getD (pc + 1)) lv' st' h') : KK p l e R s m args below meth c Q base D M c0 s0 pc lv st h := by
  intro H locs ls hR hS hl
  unfold s_ibin at hst
  split at hst
  · rename_i y x r
    rw [show ibin 4 x y = (if y = 0 then none else some (x - x / y * y)) from rfl] at hst
    by_cases hne : y = 0
    · rw [if_pos hne] at hst; cases hst
    · rw [if_neg hne] at hst
      obtain ⟨rfl, rfl, rfl, rfl⟩ := nx_inj hst
      exact lv_irem hx hb hd hne (kk H locs ls hR hS hl)
  · cases hst
theorem si_iand (hx : p.tables.exec = Jvm.exec) (hb : c.code = mB M) (hd : decode (mB M) pc = .ok (.iand, 1)) (hst : s_ibin 5 lv st h = some (.inl (j, lv', st', h'))) (kk : KK p l e R s m args below meth c Q base D M c0 s0 (j.getD (pc + 1)) lv' st' h') : KK p l e R s m args below meth c Q base D M c0 s0 pc lv st h := by
  intro H locs ls hR hS hl
  unfold s_ibin at hst
  split at hst
  · dsimp only [ibin] at hst
    obtain ⟨rfl, rfl, rfl, rfl⟩ := nx_inj hst
    exact lv_iand hx hb hd (kk H locs ls hR hS hl)
  · cases hst
theorem si_ior (hx : p.tables.exec = Jvm.exec) (hb : c.code = mB M) (hd : decode (mB M) pc = .ok (.ior, 1)) (hst : s_ibin 6 lv st h = some (.inl (j, lv', st', h'))) (kk : KK p l e R s m args below meth c Q base D M c0 s0 (j.getD (pc + 1)) lv' st' h') : KK p l e R s m args below meth c Q base D M c0 s0 pc lv st h := by
  intro H locs ls hR hS hl
  unfold s_ibin at hst
  split at hst
  · dsimp only [ibin] at hst
    obtain ⟨rfl, rfl, rfl, rfl⟩ := nx_inj hst
    exact lv_ior hx hb hd (kk H locs ls hR hS hl)
  · cases hst
theorem si_ixor (hx : p.tables.exec = Jvm.exec) (hb : c.code = mB M) (hd : decode (mB M) pc = .ok (.ixor, 1)) (hst : s_ibin 7 lv st h = some (.inl (j, lv', st', h'))) (kk : KK p l e R s m args below meth c Q base D M c0 s0 (j.getD (pc + 1)) lv' st' h') : KK p l e R s m args below meth c Q base D M c0 s0 pc lv st h := by
  intro H locs ls hR hS hl
  unfold s_ibin at hst
  split at hst
  · dsimp only [ibin] at hst
    obtain ⟨rfl, rfl, rfl, rfl⟩ := nx_inj hst
    exact lv_ixor hx hb hd (kk H locs ls hR hS hl)
  · cases hst
theorem si_ishl (hx : p.tables.exec = Jvm.exec) (hb : c.code = mB M) (hd : decode (mB M) pc = .ok (.ishl, 1)) (hst : s_ibin 8 lv st h = some (.inl (j, lv', st', h'))) (kk : KK p l e R s m args below meth c Q base D M c0 s0 (j.getD (pc + 1)) lv' st' h') : KK p l e R s m args below meth c Q base D M c0 s0 pc lv st h := by
  intro H locs ls hR hS hl
  unfold s_ibin at hst
  split at hst
  · dsimp only [ibin] at hst
    obtain ⟨rfl, rfl, rfl, rfl⟩ := nx_inj hst
    exact lv_ishl hx hb hd (kk H locs ls hR hS hl)
  · cases hst
theorem si_ishr (hx : p.tables.exec = Jvm.exec) (hb : c.code = mB M) (hd : decode (mB M) pc = .ok (.ishr, 1)) (hst : s_ibin 9 lv st h = some (.inl (j, lv', st', h'))) (kk : KK p l e R s m args below meth c Q base D M c0 s0 (j.getD (pc + 1)) lv' st' h') : KK p l e R s m args below meth c Q base D M c0 s0 pc lv st h := by
  intro H locs ls hR hS hl
  unfold s_ibin at hst
  split at hst
  · dsimp only [ibin] at hst
    obtain ⟨rfl, rfl, rfl, rfl⟩ := nx_inj hst
    exact lv_ishr hx hb hd (kk H locs ls hR hS hl)
  · cases hst
theorem si_ladd (hx : p.tables.exec = Jvm.exec) (hb : c.code = mB M) (hd : decode (mB M) pc = .ok (.ladd, 1)) (hst : s_lbin 0 lv st h = some (.inl (j, lv', st', h'))) (kk : KK p l e R s m args below meth c Q base D M c0 s0 (j.getD (pc + 1)) lv' st' h') : KK p l e R s m args below meth c Q base D M c0 s0 pc lv st h := by
  intro H locs ls hR hS hl
  unfold s_lbin at hst
  split at hst
  · dsimp only [lbin] at hst
    obtain ⟨rfl, rfl, rfl, rfl⟩ := nx_inj hst
    exact lv_ladd hx hb hd (kk H locs ls hR hS hl)
  · cases hst
theorem si_lsub (hx : p.tables.exec = Jvm.exec) (hb : c.code = mB M) (hd : decode (mB M) pc = .ok (.lsub, 1)) (hst : s_lbin 1 lv st h = some (.inl (j, lv', st', h'))) (kk : KK p l e R s m args below meth c Q base D M c0 s0 (j.getD (pc + 1)) lv' st' h') : KK p l e R s m args below meth c Q base D M c0 s0 pc lv st h := by
  intro H locs ls hR hS hl
  unfold s_lbin at hst
  split at hst
  · dsimp only [lbin] at hst
    obtain ⟨rfl, rfl, rfl, rfl⟩ := nx_inj hst
    exact lv_lsub hx hb hd (kk H locs ls hR hS hl)
  · cases hst
theorem si_lmul (hx : p.tables.exec = Jvm.exec) (hb : c.code = mB M) (hd : decode (mB M) pc = .ok (.lmul, 1)) (hst : s_lbin 2 lv st h = some (.inl (j, lv', st', h'))) (kk : KK p l e R s m args below meth c Q base D M c0 s0 (j.getD (pc + 1)) lv' st' h') : KK p l e R s m args below meth c Q base D M c0 s0 pc lv st h := by
  intro H locs ls hR hS hl
  unfold s_lbin at hst
  split at hst
  · dsimp only [lbin] at hst
    obtain ⟨rfl, rfl, rfl, rfl⟩ := nx_inj hst
    exact lv_lmul hx hb hd (kk H locs ls hR hS hl)
  · cases hst
theorem si_ldiv (hx : p.tables.exec = Jvm.exec) (hb : c.code = mB M) (hd : decode (mB M) pc = .ok (.ldiv, 1)) (hst : s_lbin 3 lv st h = some (.inl (j, lv', st', h'))) (kk : KK p l e R s m args below meth c Q base D M c0 s0 (j.getD (pc + 1)) lv' st' h') : KK p l e R s m args below meth c Q base D M c0 s0 pc lv st h := by
  intro H locs ls hR hS hl
  unfold s_lbin at hst
  split at hst
  · rename_i y x r
    rw [show lbin 3 x y = (if y = 0 then none else some (x / y)) from rfl] at hst
    by_cases hne : y = 0
    · rw [if_pos hne] at hst; cases hst
    · rw [if_neg hne] at hst
      obtain ⟨rfl, rfl, rfl, rfl⟩ := nx_inj hst
      exact lv_ldiv hx hb hd hne (kk H locs ls hR hS hl)
  · cases hst
theorem si_i2l (hx : p.tables.exec = Jvm.exec) (hb : c.code = mB M) (hd : decode (mB M) pc = .ok (.i2l, 1)) (hst : s_conv 0 lv st h = some (.inl (j, lv', st', h'))) (kk : KK p l e R s m args below meth c Q base D M c0 s0 (j.getD (pc + 1)) lv' st' h') : KK p l e R s m args below meth c Q base D M c0 s0 pc lv st h := by
  intro H locs ls hR hS hl
  unfold s_conv at hst
  cases st with
  | nil => cases hst
  | cons v r =>
    cases v <;> first | (cases hst; done) | skip
    dsimp only [conv] at hst
    obtain ⟨rfl, rfl, rfl, rfl⟩ := nx_inj hst
    exact lv_i2l hx hb hd rfl (kk H locs ls hR hS hl)
theorem si_l2i (hx : p.tables.exec = Jvm.exec) (hb : c.code = mB M) (hd : decode (mB M) pc = .ok (.l2i, 1)) (hst : s_conv 1 lv st h = some (.inl (j, lv', st', h'))) (kk : KK p l e R s m args below meth c Q base D M c0 s0 (j.getD (pc + 1)) lv' st' h') : KK p l e R s m args below meth c Q base D M c0 s0 pc lv st h := by
  intro H locs ls hR hS hl
  unfold s_conv at hst
  cases st with
  | nil => cases hst
  | cons v r =>
    cases v <;> first | (cases hst; done) | skip
    dsimp only [conv] at hst
    obtain ⟨rfl, rfl, rfl, rfl⟩ := nx_inj hst
    exact lv_l2i hx hb hd rfl (kk H locs ls hR hS hl)
theorem si_i2b (hx : p.tables.exec = Jvm.exec) (hb : c.code = mB M) (hd : decode (mB M) pc = .ok (.i2b, 1)) (hst : s_conv 2 lv st h = some (.inl (j, lv', st', h'))) (kk : KK p l e R s m args below meth c Q base D M c0 s0 (j.getD (pc + 1)) lv' st' h') : KK p l e R s m args below meth c Q base D M c0 s0 pc lv st h := by
  intro H locs ls hR hS hl
  unfold s_conv at hst
  cases st with
  | nil => cases hst
  | cons v r =>
    cases v <;> first | (cases hst; done) | skip
    dsimp only [conv] at hst
    obtain ⟨rfl, rfl, rfl, rfl⟩ := nx_inj hst
    exact lv_i2b hx hb hd rfl (kk H locs ls hR hS hl)
theorem si_i2s (hx : p.tables.exec = Jvm.exec) (hb : c.code = mB M) (hd : decode (mB M) pc = .ok (.i2s, 1)) (hst : s_conv 3 lv st h = some (.inl (j, lv', st', h'))) (kk : KK p l e R s m args below meth c Q base D M c0 s0 (j.getD (pc + 1)) lv' st' h') : KK p l e R s m args below meth c Q base D M c0 s0 pc lv st h := by
  intro H locs ls hR hS hl
  unfold s_conv at hst
  cases st with
  | nil => cases hst
  | cons v r =>
    cases v <;> first | (cases hst; done) | skip
    dsimp only [conv] at hst
    obtain ⟨rfl, rfl, rfl, rfl⟩ := nx_inj hst
    exact lv_i2s hx hb hd rfl (kk H locs ls hR hS hl)
theorem si_ineg (hx : p.tables.exec = Jvm.exec) (hb : c.code = mB M) (hd : decode (mB M) pc = .ok (.ineg, 1)) (hst : s_conv 4 lv st h = some (.inl (j, lv', st', h'))) (kk : KK p l e R s m args below meth c Q base D M c0 s0 (j.getD (pc + 1)) lv' st' h') : KK p l e R s m args below meth c Q base D M c0 s0 pc lv st h := by
  intro H locs ls hR hS hl
  unfold s_conv at hst
  cases st with
  | nil => cases hst
  | cons v r =>
    cases v <;> first | (cases hst; done) | skip
    dsimp only [conv] at hst
    obtain ⟨rfl, rfl, rfl, rfl⟩ := nx_inj hst
    exact lv_ineg hx hb hd (kk H locs ls hR hS hl)
theorem si_lcmp (hx : p.tables.exec = Jvm.exec) (hb : c.code = mB M) (hd : decode (mB M) pc = .ok (.lcmp, 1)) (hst : s_lcmp lv st h = some (.inl (j, lv', st', h'))) (kk : KK p l e R s m args below meth c Q base D M c0 s0 (j.getD (pc + 1)) lv' st' h') : KK p l e R s m args below meth c Q base D M c0 s0 pc lv st h := by
  intro H locs ls hR hS hl
  unfold s_lcmp at hst
  split at hst
  · obtain ⟨rfl, rfl, rfl, rfl⟩ := nx_inj hst
    exact W.lcmp hx hb hd (kk H locs ls hR hS hl)
  · cases hst
theorem si_icmp_eq {off : Int} (hx : p.tables.exec = Jvm.exec) (hb : c.code = mB M) (hd : decode (mB M) pc = .ok (.if_icmp .eq off, 3)) (ht : 0 ≤ (pc : Int) + off) (hst : s_icmp 0 ((pc : Int) + off) lv st h = some (.inl (j, lv', st', h'))) (kk : KK p l e R s m args below meth c Q base D M c0 s0 (j.getD (pc + 3)) lv' st' h') : KK p l e R s m args below meth c Q base D M c0 s0 pc lv st h := by
  intro H locs ls hR hS hl
  unfold s_icmp at hst
  split at hst
  · rename_i y x r
    dsimp only [icond] at hst
    by_cases hq : x = y
    · rw [decide_eq_true hq] at hst
      obtain ⟨rfl, rfl, rfl, rfl⟩ := jp_inj hst
      refine lv_icmp_eq (tgt := ((pc : Int) + off).toNat) hx hb hd (Int.toNat_of_nonneg ht).symm (fun _ => kk H locs ls hR hS hl) (fun hn => ?_)
      exact absurd hq (by first | exact hn | exact not_not_intro hn)
    · rw [decide_eq_false hq] at hst
      obtain ⟨rfl, rfl, rfl, rfl⟩ := nx_inj hst
      refine lv_icmp_eq (tgt := ((pc : Int) + off).toNat) hx hb hd (Int.toNat_of_nonneg ht).symm (fun hn => ?_) (fun _ => kk H locs ls hR hS hl)
      exact absurd hn hq
  · cases hst
theorem si_icmp_ne {off : Int} (hx : p.tables.exec = Jvm.exec) (hb : c.code = mB M) (hd : decode (mB M) pc = .ok (.if_icmp .ne off, 3)) (ht : 0 ≤ (pc : Int) + off) (hst : s_icmp 1 ((pc : Int) + off) lv st h = some (.inl (j, lv', st', h'))) (kk : KK p l e R s m args below meth c Q base D M c0 s0 (j.getD (pc + 3)) lv' st' h') : KK p l e R s m args below meth c Q base D M c0 s0 pc lv st h := by
  intro H locs ls hR hS hl
  unfold s_icmp at hst
  split at hst
  · rename_i y x r
    dsimp only [icond] at hst
    by_cases hq : ¬ x = y
    · rw [decide_eq_true hq] at hst
      obtain ⟨rfl, rfl, rfl, rfl⟩ := jp_inj hst
      refine lv_icmp_ne (tgt := ((pc : Int) + off).toNat) hx hb hd (Int.toNat_of_nonneg ht).symm (fun _ => kk H locs ls hR hS hl) (fun hn => ?_)
      exact absurd hq (by first | exact hn | exact not_not_intro hn)
    · rw [decide_eq_false hq] at hst
      obtain ⟨rfl, rfl, rfl, rfl⟩ := nx_inj hst
      refine lv_icmp_ne (tgt := ((pc : Int) + off).toNat) hx hb hd (Int.toNat_of_nonneg ht).symm (fun hn => ?_) (fun _ => kk H locs ls hR hS hl)
      exact absurd hn hq
  · cases hst
theorem si_icmp_lt {off : Int} (hx : p.tables.exec = Jvm.exec) (hb : c.code = mB M) (hd : decode (mB M) pc = .ok (.if_icmp .lt off, 3)) (ht : 0 ≤ (pc : Int) + off) (hst : s_icmp 2 ((pc : Int) + off) lv st h = some (.inl (j, lv', st', h'))) (kk : KK p l e R s m args below meth c Q base D M c0 s0 (j.getD (pc + 3)) lv' st' h') : KK p l e R s m args below meth c Q base D M c0 s0 pc lv st h := by
  intro H locs ls hR hS hl
  unfold s_icmp at hst
  split at hst
  · rename_i y x r
    dsimp only [icond] at hst
    by_cases hq : x < y
    · rw [decide_eq_true hq] at hst
      obtain ⟨rfl, rfl, rfl, rfl⟩ := jp_inj hst
      refine lv_icmp_lt (tgt := ((pc : Int) + off).toNat) hx hb hd (Int.toNat_of_nonneg ht).symm (fun _ => kk H locs ls hR hS hl) (fun hn => ?_)
      exact absurd hq (by first | exact hn | exact not_not_intro hn)
    · rw [decide_eq_false hq] at hst
      obtain ⟨rfl, rfl, rfl, rfl⟩ := nx_inj hst
      refine lv_icmp_lt (tgt := ((pc : Int) + off).toNat) hx hb hd (Int.toNat_of_nonneg ht).symm (fun hn => ?_) (fun _ => kk H locs ls hR hS hl)
      exact absurd hn hq
  · cases hst
theorem si_icmp_ge {off : Int} (hx : p.tables.exec = Jvm.exec) (hb : c.code = mB M) (hd : decode (mB M) pc = .ok (.if_icmp .ge off, 3)) (ht : 0 ≤ (pc : Int) + off) (hst : s_icmp 3 ((pc : Int) + off) lv st h = some (.inl (j, lv', st', h'))) (kk : KK p l e R s m args below meth c Q base D M c0 s0 (j.getD (pc + 3)) lv' st' h') : KK p l e R s m args below meth c Q base D M c0 s0 pc lv st h := by
  intro H locs ls hR hS hl
  unfold s_icmp at hst
  split at hst
  · rename_i y x r
    dsimp only [icond] at hst
    by_cases hq : y ≤ x
    · rw [decide_eq_true hq] at hst
      obtain ⟨rfl, rfl, rfl, rfl⟩ := jp_inj hst
      refine lv_icmp_ge (tgt := ((pc : Int) + off).toNat) hx hb hd (Int.toNat_of_nonneg ht).symm (fun _ => kk H locs ls hR hS hl) (fun hn => ?_)
      exact absurd hq (by first | exact hn | exact not_not_intro hn)
    · rw [decide_eq_false hq] at hst
      obtain ⟨rfl, rfl, rfl, rfl⟩ := nx_inj hst
      refine lv_icmp_ge (tgt := ((pc : Int) + off).toNat) hx hb hd (Int.toNat_of_nonneg ht).symm (fun hn => ?_) (fun _ => kk H locs ls hR hS hl)
      exact absurd hn hq
  · cases hst
theorem si_icmp_gt {off : Int} (hx : p.tables.exec = Jvm.exec) (hb : c.code = mB M) (hd : decode (mB M) pc = .ok (.if_icmp .gt off, 3)) (ht : 0 ≤ (pc : Int) + off) (hst : s_icmp 4 ((pc : Int) + off) lv st h = some (.inl (j, lv', st', h'))) (kk : KK p l e R s m args below meth c Q base D M c0 s0 (j.getD (pc + 3)) lv' st' h') : KK p l e R s m args below meth c Q base D M c0 s0 pc lv st h := by
  intro H locs ls hR hS hl
  unfold s_icmp at hst
  split at hst
  · rename_i y x r
    dsimp only [icond] at hst
    by_cases hq : y < x
    · rw [decide_eq_true hq] at hst
      obtain ⟨rfl, rfl, rfl, rfl⟩ := jp_inj hst
      refine lv_icmp_gt (tgt := ((pc : Int) + off).toNat) hx hb hd (Int.toNat_of_nonneg ht).symm (fun _ => kk H locs ls hR hS hl) (fun hn => ?_)
      exact absurd hq (by first | exact hn | exact not_not_intro hn)
    · rw [decide_eq_false hq] at hst
      obtain ⟨rfl, rfl, rfl, rfl⟩ := nx_inj hst
      refine lv_icmp_gt (tgt := ((pc : Int) + off).toNat) hx hb hd (Int.toNat_of_nonneg ht).symm (fun hn => ?_) (fun _ => kk H locs ls hR hS hl)
      exact absurd hn hq
  · cases hst
theorem si_icmp_le {off : Int} (hx : p.tables.exec = Jvm.exec) (hb : c.code = mB M) (hd : decode (mB M) pc = .ok (.if_icmp .le off, 3)) (ht : 0 ≤ (pc : Int) + off) (hst : s_icmp 5 ((pc : Int) + off) lv st h = some (.inl (j, lv', st', h'))) (kk : KK p l e R s m args below meth c Q base D M c0 s0 (j.getD (pc + 3)) lv' st' h') : KK p l e R s m args below meth c Q base D M c0 s0 pc lv st h := by
  intro H locs ls hR hS hl
  unfold s_icmp at hst
  split at hst
  · rename_i y x r
    dsimp only [icond] at hst
    by_cases hq : x ≤ y
    · rw [decide_eq_true hq] at hst
      obtain ⟨rfl, rfl, rfl, rfl⟩ := jp_inj hst
      refine lv_icmp_le (tgt := ((pc : Int) + off).toNat) hx hb hd (Int.toNat_of_nonneg ht).symm (fun _ => kk H locs ls hR hS hl) (fun hn => ?_)
      exact absurd hq (by first | exact hn | exact not_not_intro hn)
    · rw [decide_eq_false hq] at hst
      obtain ⟨rfl, rfl, rfl, rfl⟩ := nx_inj hst
      refine lv_icmp_le (tgt := ((pc : Int) + off).toNat) hx hb hd (Int.toNat_of_nonneg ht).symm (fun hn => ?_) (fun _ => kk H locs ls hR hS hl)
      exact absurd hn hq
  · cases hst
theorem si_if_eq {off : Int} (hx : p.tables.exec = Jvm.exec) (hb : c.code = mB M) (hd : decode (mB M) pc = .ok (.ifCond .eq off, 3)) (ht : 0 ≤ (pc : Int) + off) (hst : s_if 0 ((pc : Int) + off) lv st h = some (.inl (j, lv', st', h'))) (kk : KK p l e R s m args below meth c Q base D M c0 s0 (j.getD (pc + 3)) lv' st' h') : KK p l e R s m args below meth c Q base D M c0 s0 pc lv st h := by
  intro H locs ls hR hS hl
  unfold s_if at hst
  split at hst
  · rename_i x r
    dsimp only [icond] at hst
    by_cases hq : x = 0
    · rw [decide_eq_true hq] at hst
      obtain ⟨rfl, rfl, rfl, rfl⟩ := jp_inj hst
      refine lv_if_eq (tgt := ((pc : Int) + off).toNat) hx hb hd (Int.toNat_of_nonneg ht).symm (fun _ => kk H locs ls hR hS hl) (fun hn => ?_)
      exact absurd hq (by first | exact hn | exact not_not_intro hn)
    · rw [decide_eq_false hq] at hst
      obtain ⟨rfl, rfl, rfl, rfl⟩ := nx_inj hst
      refine lv_if_eq (tgt := ((pc : Int) + off).toNat) hx hb hd (Int.toNat_of_nonneg ht).symm (fun hn => ?_) (fun _ => kk H locs ls hR hS hl)
      exact absurd hn hq
  · cases hst
theorem si_if_ne {off : Int} (hx : p.tables.exec = Jvm.exec) (hb : c.code = mB M) (hd : decode (mB M) pc = .ok (.ifCond .ne off, 3)) (ht : 0 ≤ (pc : Int) + off) (hst : s_if 1 ((pc : Int) + off) lv st h = some (.inl (j, lv', st', h'))) (kk : KK p l e R s m args below meth c Q base D M c0 s0 (j.getD (pc + 3)) lv' st' h') : KK p l e R s m args below meth c Q base D M c0 s0 pc lv st h := by
  intro H locs ls hR hS hl
  unfold s_if at hst
  split at hst
  · rename_i x r
    dsimp only [icond] at hst
    by_cases hq : ¬ x = 0
    · rw [decide_eq_true hq] at hst
      obtain ⟨rfl, rfl, rfl, rfl⟩ := jp_inj hst
      refine lv_if_ne (tgt := ((pc : Int) + off).toNat) hx hb hd (Int.toNat_of_nonneg ht).symm (fun _ => kk H locs ls hR hS hl) (fun hn => ?_)
      exact absurd hq (by first | exact hn | exact not_not_intro hn)
    · rw [decide_eq_false hq] at hst
      obtain ⟨rfl, rfl, rfl, rfl⟩ := nx_inj hst
      refine lv_if_ne (tgt := ((pc : Int) + off).toNat) hx hb hd (Int.toNat_of_nonneg ht).symm (fun hn => ?_) (fun _ => kk H locs ls hR hS hl)
      exact absurd hn hq
  · cases hst
theorem si_if_lt {off : Int} (hx : p.tables.exec = Jvm.exec) (hb : c.code = mB M) (hd : decode (mB M) pc = .ok (.ifCond .lt off, 3)) (ht : 0 ≤ (pc : Int) + off) (hst : s_if 2 ((pc : Int) + off) lv st h = some (.inl (j, lv', st', h'))) (kk : KK p l e R s m args below meth c Q base D M c0 s0 (j.getD (pc + 3)) lv' st' h') : KK p l e R s m args below meth c Q base D M c0 s0 pc lv st h := by
  intro H locs ls hR hS hl
  unfold s_if at hst
  split at hst
  · rename_i x r
    dsimp only [icond] at hst
    by_cases hq : x < 0
    · rw [decide_eq_true hq] at hst
      obtain ⟨rfl, rfl, rfl, rfl⟩ := jp_inj hst
      refine lv_if_lt (tgt := ((pc : Int) + off).toNat) hx hb hd (Int.toNat_of_nonneg ht).symm (fun _ => kk H locs ls hR hS hl) (fun hn => ?_)
      exact absurd hq (by first | exact hn | exact not_not_intro hn)
    · rw [decide_eq_false hq] at hst
      obtain ⟨rfl, rfl, rfl, rfl⟩ := nx_inj hst
      refine lv_if_lt (tgt := ((pc : Int) + off).toNat) hx hb hd (Int.toNat_of_nonneg ht).symm (fun hn => ?_) (fun _ => kk H locs ls hR hS hl)
      exact absurd hn hq
  · cases hst
theorem si_if_ge {off : Int} (hx : p.tables.exec = Jvm.exec) (hb : c.code = mB M) (hd : decode (mB M) pc = .ok (.ifCond .ge off, 3)) (ht : 0 ≤ (pc : Int) + off) (hst : s_if 3 ((pc : Int) + off) lv st h = some (.inl (j, lv', st', h'))) (kk : KK p l e R s m args below meth c Q base D M c0 s0 (j.getD (pc + 3)) lv' st' h') : KK p l e R s m args below meth c Q base D M c0 s0 pc lv st h := by
  intro H locs ls hR hS hl
  unfold s_if at hst
  split at hst
  · rename_i x r
    dsimp only [icond] at hst
    by_cases hq : 0 ≤ x
    · rw [decide_eq_true hq] at hst
      obtain ⟨rfl, rfl, rfl, rfl⟩ := jp_inj hst
      refine lv_if_ge (tgt := ((pc : Int) + off).toNat) hx hb hd (Int.toNat_of_nonneg ht).symm (fun _ => kk H locs ls hR hS hl) (fun hn => ?_)
      exact absurd hq (by first | exact hn | exact not_not_intro hn)
    · rw [decide_eq_false hq] at hst
      obtain ⟨rfl, rfl, rfl, rfl⟩ := nx_inj hst
      refine lv_if_ge (tgt := ((pc : Int) + off).toNat) hx hb hd (Int.toNat_of_nonneg ht).symm (fun hn => ?_) (fun _ => kk H locs ls hR hS hl)
      exact absurd hn hq
  · cases hst
theorem si_if_gt {off : Int} (hx : p.tables.exec = Jvm.exec) (hb : c.code = mB M) (hd : decode (mB M) pc = .ok (.ifCond .gt off, 3)) (ht : 0 ≤ (pc : Int) + off) (hst : s_if 4 ((pc : Int) + off) lv st h = some (.inl (j, lv', st', h'))) (kk : KK p l e R s m args below meth c Q base D M c0 s0 (j.getD (pc + 3)) lv' st' h') : KK p l e R s m args below meth c Q base D M c0 s0 pc lv st h := by
  intro H locs ls hR hS hl
  unfold s_if at hst
  split at hst
  · rename_i x r
    dsimp only [icond] at hst
    by_cases hq : 0 < x
    · rw [decide_eq_true hq] at hst
      obtain ⟨rfl, rfl, rfl, rfl⟩ := jp_inj hst
      refine lv_if_gt (tgt := ((pc : Int) + off).toNat) hx hb hd (Int.toNat_of_nonneg ht).symm (fun _ => kk H locs ls hR hS hl) (fun hn => ?_)
      exact absurd hq (by first | exact hn | exact not_not_intro hn)
    · rw [decide_eq_false hq] at hst
      obtain ⟨rfl, rfl, rfl, rfl⟩ := nx_inj hst
      refine lv_if_gt (tgt := ((pc : Int) + off).toNat) hx hb hd (Int.toNat_of_nonneg ht).symm (fun hn => ?_) (fun _ => kk H locs ls hR hS hl)
      exact absurd hn hq
  · cases hst
theorem si_if_le {off : Int} (hx : p.tables.exec = Jvm.exec) (hb : c.code = mB M) (hd : decode (mB M) pc = .ok (.ifCond .le off, 3)) (ht : 0 ≤ (pc : Int) + off) (hst : s_if 5 ((pc : Int) + off) lv st h = some (.inl (j, lv', st', h'))) (kk : KK p l e R s m args below meth c Q base D M c0 s0 (j.getD (pc + 3)) lv' st' h') : KK p l e R s m args below meth c Q base D M c0 s0 pc lv st h := by
  intro H locs ls hR hS hl
  unfold s_if at hst
  split at hst
  · rename_i x r
    dsimp only [icond] at hst
    by_cases hq : x ≤ 0
    · rw [decide_eq_true hq] at hst
      obtain ⟨rfl, rfl, rfl, rfl⟩ := jp_inj hst
      refine lv_if_le (tgt := ((pc : Int) + off).toNat) hx hb hd (Int.toNat_of_nonneg ht).symm (fun _ => kk H locs ls hR hS hl) (fun hn => ?_)
      exact absurd hq (by first | exact hn | exact not_not_intro hn)
    · rw [decide_eq_false hq] at hst
      obtain ⟨rfl, rfl, rfl, rfl⟩ := nx_inj hst
      refine lv_if_le (tgt := ((pc : Int) + off).toNat) hx hb hd (Int.toNat_of_nonneg ht).symm (fun hn => ?_) (fun _ => kk H locs ls hR hS hl)
      exact absurd hn hq
  · cases hst
theorem si_goto {off : Int} (hx : p.tables.exec = Jvm.exec) (hb : c.code = mB M) (hd : decode (mB M) pc = .ok (.goto off, 3)) (ht : 0 ≤ (pc : Int) + off) (hst : jp ((pc : Int) + off) lv st h = some (.inl (j, lv', st', h'))) (kk : KK p l e R s m args below meth c Q base D M c0 s0 (j.getD (pc + 3)) lv' st' h') : KK p l e R s m args below meth c Q base D M c0 s0 pc lv st h := by
  intro H locs ls hR hS hl
  obtain ⟨rfl, rfl, rfl, rfl⟩ := jp_inj hst
  exact lv_goto (tgt := ((pc : Int) + off).toNat) hx hb hd (Int.toNat_of_nonneg ht).symm (kk H locs ls hR hS hl)
theorem si_ifnull {off : Int} (hx : p.tables.exec = Jvm.exec) (hb : c.code = mB M) (hd : decode (mB M) pc = .ok (.ifnull off, 3)) (ht : 0 ≤ (pc : Int) + off) (hst : s_null 0 ((pc : Int) + off) lv st h = some (.inl (j, lv', st', h'))) (kk : KK p l e R s m args below meth c Q base D M c0 s0 (j.getD (pc + 3)) lv' st' h') : KK p l e R s m args below meth c Q base D M c0 s0 pc lv st h := by
  intro H locs ls hR hS hl
  unfold s_null at hst
  cases st with
  | nil => cases hst
  | cons v r =>
    cases v <;> first | (cases hst; done) | skip
    · obtain ⟨rfl, rfl, rfl, rfl⟩ := jp_inj hst
      exact lv_ifnullN (tgt := ((pc : Int) + off).toNat) hx hb hd (Int.toNat_of_nonneg ht).symm (kk H locs ls hR hS hl)
    · obtain ⟨rfl, rfl, rfl, rfl⟩ := nx_inj hst
      exact lv_ifnull hx hb hd (kk H locs ls hR hS hl)
theorem si_ifnonnull {off : Int} (hx : p.tables.exec = Jvm.exec) (hb : c.code = mB M) (hd : decode (mB M) pc = .ok (.ifnonnull off, 3)) (ht : 0 ≤ (pc : Int) + off) (hst : s_null 1 ((pc : Int) + off) lv st h = some (.inl (j, lv', st', h'))) (kk : KK p l e R s m args below meth c Q base D M c0 s0 (j.getD (pc + 3)) lv' st' h') : KK p l e R s m args below meth c Q base D M c0 s0 pc lv st h := by
  intro H locs ls hR hS hl
  unfold s_null at hst
  cases st with
  | nil => cases hst
  | cons v r =>
    cases v <;> first | (cases hst; done) | skip
    · obtain ⟨rfl, rfl, rfl, rfl⟩ := nx_inj hst
      exact lv_ifnonnullN hx hb hd (kk H locs ls hR hS hl)
    · obtain ⟨rfl, rfl, rfl, rfl⟩ := jp_inj hst
      exact lv_ifnonnull (tgt := ((pc : Int) + off).toNat) hx hb hd (Int.toNat_of_nonneg ht).symm (kk H locs ls hR hS hl)
theorem si_dup (hx : p.tables.exec = Jvm.exec) (hb : c.code = mB M) (hd : decode (mB M) pc = .ok (.dup, 1)) (hst : s_stk 0 lv st h = some (.inl (j, lv', st', h'))) (kk : KK p l e R s m args below meth c Q base D M c0 s0 (j.getD (pc + 1)) lv' st' h') : KK p l e R s m args below meth c Q base D M c0 s0 pc lv st h := by
  intro H locs ls hR hS hl
  rcases st with _ | ⟨v, r⟩
  · cases hst
  · rw [show s_stk 0 lv (v :: r) h = (if v.category = 1 then nx lv (v :: v :: r) h else none) from rfl] at hst
    split at hst
    · rename_i h1
      obtain ⟨rfl, rfl, rfl, rfl⟩ := nx_inj hst
      exact lv_dup hx hb hd h1 (kk H locs ls hR hS hl)
    · cases hst
theorem si_pop (hx : p.tables.exec = Jvm.exec) (hb : c.code = mB M) (hd : decode (mB M) pc = .ok (.pop, 1)) (hst : s_stk 1 lv st h = some (.inl (j, lv', st', h'))) (kk : KK p l e R s m args below meth c Q base D M c0 s0 (j.getD (pc + 1)) lv' st' h') : KK p l e R s m args below meth c Q base D M c0 s0 pc lv st h := by
  intro H locs ls hR hS hl
  rcases st with _ | ⟨v, r⟩
  · cases hst
  · rw [show s_stk 1 lv (v :: r) h = (if v.category = 1 then nx lv r h else none) from rfl] at hst
    split at hst
    · rename_i h1
      obtain ⟨rfl, rfl, rfl, rfl⟩ := nx_inj hst
      exact lv_pop hx hb hd h1 (kk H locs ls hR hS hl)
    · cases hst
theorem si_dup_x1 (hx : p.tables.exec = Jvm.exec) (hb : c.code = mB M) (hd : decode (mB M) pc = .ok (.dup_x1, 1)) (hst : s_stk 2 lv st h = some (.inl (j, lv', st', h'))) (kk : KK p l e R s m args below meth c Q base D M c0 s0 (j.getD (pc + 1)) lv' st' h') : KK p l e R s m args below meth c Q base D M c0 s0 pc lv st h := by
  intro H locs ls hR hS hl
  rcases st with _ | ⟨v, _ | ⟨u, r⟩⟩
  · cases hst
  · cases hst
  · rw [show s_stk 2 lv (v :: u :: r) h = (if v.category = 1 ∧ u.category = 1 then nx lv (v :: u :: v :: r) h else none) from rfl] at hst
    split at hst
    · rename_i h1
      obtain ⟨rfl, rfl, rfl, rfl⟩ := nx_inj hst
      exact lv_dup_x1 hx hb hd h1.1 h1.2 (kk H locs ls hR hS hl)
    · cases hst
theorem si_dup2 (hx : p.tables.exec = Jvm.exec) (hb : c.code = mB M) (hd : decode (mB M) pc = .ok (.dup2, 1)) (hst : s_stk 3 lv st h = some (.inl (j, lv', st', h'))) (kk : KK p l e R s m args below meth c Q base D M c0 s0 (j.getD (pc + 1)) lv' st' h') : KK p l e R s m args below meth c Q base D M c0 s0 pc lv st h := by
  intro H locs ls hR hS hl
  rcases st with _ | ⟨v, _ | ⟨u, r⟩⟩
  · cases hst
  · cases hst
  · rw [show s_stk 3 lv (v :: u :: r) h = (if v.category = 1 ∧ u.category = 1 then nx lv (v :: u :: v :: u :: r) h else none) from rfl] at hst
    split at hst
    · rename_i h1
      obtain ⟨rfl, rfl, rfl, rfl⟩ := nx_inj hst
      exact lv_dup2_11 hx hb hd h1.1 h1.2 (kk H locs ls hR hS hl)
    · cases hst
theorem si_acmp_eq {off : Int} (hx : p.tables.exec = Jvm.exec) (hb : c.code = mB M) (hd : decode (mB M) pc = .ok (.if_acmp .eq off, 3)) (ht : 0 ≤ (pc : Int) + off) (hst : s_acmp 0 ((pc : Int) + off) lv st h = some (.inl (j, lv', st', h'))) (kk : KK p l e R s m args below meth c Q base D M c0 s0 (j.getD (pc + 3)) lv' st' h') : KK p l e R s m args below meth c Q base D M c0 s0 pc lv st h := by
  intro H locs ls hR hS hl
  unfold s_acmp at hst
  rcases st with _ | ⟨v, _ | ⟨u, r⟩⟩
  · cases hst
  · cases hst
  · dsimp only at hst
    split at hst
    · rename_i y x e1 e2
      change (if x = y then jp ((pc : Int) + off) lv r h else nx lv r h) = _ at hst
      have f1 : v = va_rf y := by cases v <;> first | (cases e1; done) | (cases e1; rfl)
      have f2 : u = va_rf x := by cases u <;> first | (cases e2; done) | (cases e2; rfl)
      subst f1
      subst f2
      by_cases hq : x = y
      · rw [if_pos hq] at hst
        obtain ⟨rfl, rfl, rfl, rfl⟩ := jp_inj hst
        refine lv_acmp_eq (tgt := ((pc : Int) + off).toNat) hx hb hd (Int.toNat_of_nonneg ht).symm (fun h9 => ?_) (fun h9 => ?_) <;> first | exact absurd hq h9 | exact kk H locs ls hR hS hl
      · rw [if_neg hq] at hst
        obtain ⟨rfl, rfl, rfl, rfl⟩ := nx_inj hst
        refine lv_acmp_eq (tgt := ((pc : Int) + off).toNat) hx hb hd (Int.toNat_of_nonneg ht).symm (fun h9 => ?_) (fun h9 => ?_) <;> first | exact absurd h9 hq | exact kk H locs ls hR hS hl
    · cases hst
theorem si_acmp_ne {off : Int} (hx : p.tables.exec = Jvm.exec) (hb : c.code = mB M) (hd : decode (mB M) pc = .ok (.if_acmp .ne off, 3)) (ht : 0 ≤ (pc : Int) + off) (hst : s_acmp 1 ((pc : Int) + off) lv st h = some (.inl (j, lv', st', h'))) (kk : KK p l e R s m args below meth c Q base D M c0 s0 (j.getD (pc + 3)) lv' st' h') : KK p l e R s m args below meth c Q base D M c0 s0 pc lv st h := by
  intro H locs ls hR hS hl
  unfold s_acmp at hst
  rcases st with _ | ⟨v, _ | ⟨u, r⟩⟩
  · cases hst
  · cases hst
  · dsimp only at hst
    split at hst
    · rename_i y x e1 e2
      change (if x = y then nx lv r h else jp ((pc : Int) + off) lv r h) = _ at hst
      have f1 : v = va_rf y := by cases v <;> first | (cases e1; done) | (cases e1; rfl)
      have f2 : u = va_rf x := by cases u <;> first | (cases e2; done) | (cases e2; rfl)
      subst f1
      subst f2
      by_cases hq : x = y
      · rw [if_pos hq] at hst
        obtain ⟨rfl, rfl, rfl, rfl⟩ := nx_inj hst
        refine lv_acmp_ne (tgt := ((pc : Int) + off).toNat) hx hb hd (Int.toNat_of_nonneg ht).symm (fun h9 => ?_) (fun h9 => ?_) <;> first | exact absurd hq h9 | exact kk H locs ls hR hS hl
      · rw [if_neg hq] at hst
        obtain ⟨rfl, rfl, rfl, rfl⟩ := jp_inj hst
        refine lv_acmp_ne (tgt := ((pc : Int) + off).toNat) hx hb hd (Int.toNat_of_nonneg ht).symm (fun h9 => ?_) (fun h9 => ?_) <;> first | exact absurd h9 hq | exact kk H locs ls hR hS hl
    · cases hst
theorem si_pop2 (hx : p.tables.exec = Jvm.exec) (hb : c.code = mB M) (hd : decode (mB M) pc = .ok (.pop2, 1)) (hst : s_stk 4 lv st h = some (.inl (j, lv', st', h'))) (kk : KK p l e R s m args below meth c Q base D M c0 s0 (j.getD (pc + 1)) lv' st' h') : KK p l e R s m args below meth c Q base D M c0 s0 pc lv st h := by
  intro H locs ls hR hS hl
  rcases st with _ | ⟨v, r⟩
  · cases hst
  · rw [show s_stk 4 lv (v :: r) h = (if v.category = 2 then nx lv r h else none) from rfl] at hst
    split at hst
    · rename_i h1
      obtain ⟨rfl, rfl, rfl, rfl⟩ := nx_inj hst
      exact lv_pop2_2 hx hb hd h1 (kk H locs ls hR hS hl)
    · cases hst
end SIM
