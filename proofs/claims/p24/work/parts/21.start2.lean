/-! ===== the statics and the script at the start ===== -/
theorem stat_0 {s : State} {b : Nat} (hts : ∀ w ∈ lw_tbl, w.before #[Value.ref b] s = true) (hgv : (Jvm.Cond.and given_1 narrow_1).before #[Value.ref b] s = true) : ∃ (t : Nat) (cell : Cell), va_Z "SkipCity$BoroughLaw" "DEFAULTS" "[I" (.ref t) (fun q => s.heap.size ≤ q) s s.heap ∧ s.heap[t]? = some cell ∧ s.isArrayOf cell .int ∧ cell.vm ≠ .unknown ∧ cell.slots = (iv (Tab 0)).toArray ∧ s.vm.findClass "[I" = some cell.cls := by
  have hs := flat_of_before _ hgv
  have hl : (Cond.laysStatic "SkipCity$BoroughLaw" "DEFAULTS" "[I").before #[Value.ref b] s = true := hts _ (by decide +kernel)
  have hi : (Cond.initialized "SkipCity$BoroughLaw").before #[Value.ref b] s = true := hts _ (by decide +kernel)
  have key : ∀ j : Nat, j < 6 → (Term.elem (.static "SkipCity$BoroughLaw" "DEFAULTS" "[I") (.int (Int32.ofNat j))).eval #[Value.ref b] s none [] s = some (.int (Int32.ofInt ((Tab 0).getD j 0))) := by
    intro j hj
    match j, hj with
    | 0, _ => exact va_eqt (hs (.eq (.elem (.static "SkipCity$BoroughLaw" "DEFAULTS" "[I") (.int 0)) (.int 14)) (by decide +kernel))
    | 1, _ => exact va_eqt (hs (.eq (.elem (.static "SkipCity$BoroughLaw" "DEFAULTS" "[I") (.int 1)) (.int 2)) (by decide +kernel))
    | 2, _ => exact va_eqt (hs (.eq (.elem (.static "SkipCity$BoroughLaw" "DEFAULTS" "[I") (.int 2)) (.int 5)) (by decide +kernel))
    | 3, _ => exact va_eqt (hs (.eq (.elem (.static "SkipCity$BoroughLaw" "DEFAULTS" "[I") (.int 3)) (.int 0)) (by decide +kernel))
    | 4, _ => exact va_eqt (hs (.eq (.elem (.static "SkipCity$BoroughLaw" "DEFAULTS" "[I") (.int 4)) (.int 0)) (by decide +kernel))
    | 5, _ => exact va_eqt (hs (.eq (.elem (.static "SkipCity$BoroughLaw" "DEFAULTS" "[I") (.int 5)) (.int 40)) (by decide +kernel))
  obtain ⟨t, cell, h1, h2, h3, h4, h5⟩ := arr_of (args := #[Value.ref b]) (s := s) (tm := (.static "SkipCity$BoroughLaw" "DEFAULTS" "[I")) (ty := .int) (N := 6) (f := Tab 0) (by decide) rfl (hs _ (by decide +kernel)) (va_eqt (hs (.eq (.length (.static "SkipCity$BoroughLaw" "DEFAULTS" "[I")) (.int 6)) (by decide +kernel))) key
  exact ⟨t, cell, va_Zof hl hi h1 (fun a ha hn => absurd ha (Nat.not_lt.mpr hn)), h2, h3, h4, h5, ex_cls (hs (.exactly (.static "SkipCity$BoroughLaw" "DEFAULTS" "[I") "[I") (by decide +kernel)) h1 h2⟩
theorem stat_1 {s : State} {b : Nat} (hts : ∀ w ∈ lw_tbl, w.before #[Value.ref b] s = true) (hgv : (Jvm.Cond.and given_1 narrow_1).before #[Value.ref b] s = true) : ∃ (t : Nat) (cell : Cell), va_Z "SkipCity$BoroughLaw" "LETTERS" "[C" (.ref t) (fun q => s.heap.size ≤ q) s s.heap ∧ s.heap[t]? = some cell ∧ s.isArrayOf cell .char ∧ cell.vm ≠ .unknown ∧ cell.slots = (iv (Tab 1)).toArray := by
  have hs := flat_of_before _ hgv
  have hl : (Cond.laysStatic "SkipCity$BoroughLaw" "LETTERS" "[C").before #[Value.ref b] s = true := hts _ (by decide +kernel)
  have hi : (Cond.initialized "SkipCity$BoroughLaw").before #[Value.ref b] s = true := hts _ (by decide +kernel)
  have key : ∀ j : Nat, j < 6 → (Term.elem (.static "SkipCity$BoroughLaw" "LETTERS" "[C") (.int (Int32.ofNat j))).eval #[Value.ref b] s none [] s = some (.int (Int32.ofInt ((Tab 1).getD j 0))) := by
    intro j hj
    match j, hj with
    | 0, _ => exact va_eqt (hs (.eq (.elem (.static "SkipCity$BoroughLaw" "LETTERS" "[C") (.int 0)) (.int 100)) (by decide +kernel))
    | 1, _ => exact va_eqt (hs (.eq (.elem (.static "SkipCity$BoroughLaw" "LETTERS" "[C") (.int 1)) (.int 108)) (by decide +kernel))
    | 2, _ => exact va_eqt (hs (.eq (.elem (.static "SkipCity$BoroughLaw" "LETTERS" "[C") (.int 2)) (.int 99)) (by decide +kernel))
    | 3, _ => exact va_eqt (hs (.eq (.elem (.static "SkipCity$BoroughLaw" "LETTERS" "[C") (.int 3)) (.int 101)) (by decide +kernel))
    | 4, _ => exact va_eqt (hs (.eq (.elem (.static "SkipCity$BoroughLaw" "LETTERS" "[C") (.int 4)) (.int 104)) (by decide +kernel))
    | 5, _ => exact va_eqt (hs (.eq (.elem (.static "SkipCity$BoroughLaw" "LETTERS" "[C") (.int 5)) (.int 111)) (by decide +kernel))
  obtain ⟨t, cell, h1, h2, h3, h4, h5⟩ := arr_of (args := #[Value.ref b]) (s := s) (tm := (.static "SkipCity$BoroughLaw" "LETTERS" "[C")) (ty := .char) (N := 6) (f := Tab 1) (by decide) rfl (hs _ (by decide +kernel)) (va_eqt (hs (.eq (.length (.static "SkipCity$BoroughLaw" "LETTERS" "[C")) (.int 6)) (by decide +kernel))) key
  exact ⟨t, cell, va_Zof hl hi h1 (fun a ha hn => absurd ha (Nat.not_lt.mpr hn)), h2, h3, h4, h5⟩
theorem stat_2 {s : State} {b : Nat} (hts : ∀ w ∈ lw_tbl, w.before #[Value.ref b] s = true) (hgv : (Jvm.Cond.and given_1 narrow_1).before #[Value.ref b] s = true) : ∃ (t : Nat) (cell : Cell), va_Z "SkipCity$BoroughLaw" "FIGURES" "[I" (.ref t) (fun q => s.heap.size ≤ q) s s.heap ∧ s.heap[t]? = some cell ∧ s.isArrayOf cell .int ∧ cell.vm ≠ .unknown ∧ cell.slots = (iv (Tab 2)).toArray ∧ s.vm.findClass "[I" = some cell.cls := by
  have hs := flat_of_before _ hgv
  have hl : (Cond.laysStatic "SkipCity$BoroughLaw" "FIGURES" "[I").before #[Value.ref b] s = true := hts _ (by decide +kernel)
  have hi : (Cond.initialized "SkipCity$BoroughLaw").before #[Value.ref b] s = true := hts _ (by decide +kernel)
  have key : ∀ j : Nat, j < 6 → (Term.elem (.static "SkipCity$BoroughLaw" "FIGURES" "[I") (.int (Int32.ofNat j))).eval #[Value.ref b] s none [] s = some (.int (Int32.ofInt ((Tab 2).getD j 0))) := by
    intro j hj
    match j, hj with
    | 0, _ => exact va_eqt (hs (.eq (.elem (.static "SkipCity$BoroughLaw" "FIGURES" "[I") (.int 0)) (.int 2)) (by decide +kernel))
    | 1, _ => exact va_eqt (hs (.eq (.elem (.static "SkipCity$BoroughLaw" "FIGURES" "[I") (.int 1)) (.int 2)) (by decide +kernel))
    | 2, _ => exact va_eqt (hs (.eq (.elem (.static "SkipCity$BoroughLaw" "FIGURES" "[I") (.int 2)) (.int 2)) (by decide +kernel))
    | 3, _ => exact va_eqt (hs (.eq (.elem (.static "SkipCity$BoroughLaw" "FIGURES" "[I") (.int 3)) (.int 0)) (by decide +kernel))
    | 4, _ => exact va_eqt (hs (.eq (.elem (.static "SkipCity$BoroughLaw" "FIGURES" "[I") (.int 4)) (.int 0)) (by decide +kernel))
    | 5, _ => exact va_eqt (hs (.eq (.elem (.static "SkipCity$BoroughLaw" "FIGURES" "[I") (.int 5)) (.int 3)) (by decide +kernel))
  obtain ⟨t, cell, h1, h2, h3, h4, h5⟩ := arr_of (args := #[Value.ref b]) (s := s) (tm := (.static "SkipCity$BoroughLaw" "FIGURES" "[I")) (ty := .int) (N := 6) (f := Tab 2) (by decide) rfl (hs _ (by decide +kernel)) (va_eqt (hs (.eq (.length (.static "SkipCity$BoroughLaw" "FIGURES" "[I")) (.int 6)) (by decide +kernel))) key
  exact ⟨t, cell, va_Zof hl hi h1 (fun a ha hn => absurd ha (Nat.not_lt.mpr hn)), h2, h3, h4, h5, ex_cls (hs (.exactly (.static "SkipCity$BoroughLaw" "FIGURES" "[I") "[I") (by decide +kernel)) h1 h2⟩
theorem stat_3 {s : State} {b : Nat} (hts : ∀ w ∈ lw_tbl, w.before #[Value.ref b] s = true) (hgv : (Jvm.Cond.and given_1 narrow_1).before #[Value.ref b] s = true) : ∃ (t : Nat) (cell : Cell), va_Z "SkipCity$BoroughLaw" "LEAST" "[I" (.ref t) (fun q => s.heap.size ≤ q) s s.heap ∧ s.heap[t]? = some cell ∧ s.isArrayOf cell .int ∧ cell.vm ≠ .unknown ∧ cell.slots = (iv (Tab 3)).toArray ∧ s.vm.findClass "[I" = some cell.cls := by
  have hs := flat_of_before _ hgv
  have hl : (Cond.laysStatic "SkipCity$BoroughLaw" "LEAST" "[I").before #[Value.ref b] s = true := hts _ (by decide +kernel)
  have hi : (Cond.initialized "SkipCity$BoroughLaw").before #[Value.ref b] s = true := hts _ (by decide +kernel)
  have key : ∀ j : Nat, j < 6 → (Term.elem (.static "SkipCity$BoroughLaw" "LEAST" "[I") (.int (Int32.ofNat j))).eval #[Value.ref b] s none [] s = some (.int (Int32.ofInt ((Tab 3).getD j 0))) := by
    intro j hj
    match j, hj with
    | 0, _ => exact va_eqt (hs (.eq (.elem (.static "SkipCity$BoroughLaw" "LEAST" "[I") (.int 0)) (.int 1)) (by decide +kernel))
    | 1, _ => exact va_eqt (hs (.eq (.elem (.static "SkipCity$BoroughLaw" "LEAST" "[I") (.int 1)) (.int 0)) (by decide +kernel))
    | 2, _ => exact va_eqt (hs (.eq (.elem (.static "SkipCity$BoroughLaw" "LEAST" "[I") (.int 2)) (.int 0)) (by decide +kernel))
    | 3, _ => exact va_eqt (hs (.eq (.elem (.static "SkipCity$BoroughLaw" "LEAST" "[I") (.int 3)) (.int 0)) (by decide +kernel))
    | 4, _ => exact va_eqt (hs (.eq (.elem (.static "SkipCity$BoroughLaw" "LEAST" "[I") (.int 4)) (.int 0)) (by decide +kernel))
    | 5, _ => exact va_eqt (hs (.eq (.elem (.static "SkipCity$BoroughLaw" "LEAST" "[I") (.int 5)) (.int 0)) (by decide +kernel))
  obtain ⟨t, cell, h1, h2, h3, h4, h5⟩ := arr_of (args := #[Value.ref b]) (s := s) (tm := (.static "SkipCity$BoroughLaw" "LEAST" "[I")) (ty := .int) (N := 6) (f := Tab 3) (by decide) rfl (hs _ (by decide +kernel)) (va_eqt (hs (.eq (.length (.static "SkipCity$BoroughLaw" "LEAST" "[I")) (.int 6)) (by decide +kernel))) key
  exact ⟨t, cell, va_Zof hl hi h1 (fun a ha hn => absurd ha (Nat.not_lt.mpr hn)), h2, h3, h4, h5, ex_cls (hs (.exactly (.static "SkipCity$BoroughLaw" "LEAST" "[I") "[I") (by decide +kernel)) h1 h2⟩
theorem stat_4 {s : State} {b : Nat} (hts : ∀ w ∈ lw_tbl, w.before #[Value.ref b] s = true) (hgv : (Jvm.Cond.and given_1 narrow_1).before #[Value.ref b] s = true) : ∃ (t : Nat) (cell : Cell), va_Z "SkipCity$BoroughLaw" "GREATEST" "[I" (.ref t) (fun q => s.heap.size ≤ q) s s.heap ∧ s.heap[t]? = some cell ∧ s.isArrayOf cell .int ∧ cell.vm ≠ .unknown ∧ cell.slots = (iv (Tab 4)).toArray ∧ s.vm.findClass "[I" = some cell.cls := by
  have hs := flat_of_before _ hgv
  have hl : (Cond.laysStatic "SkipCity$BoroughLaw" "GREATEST" "[I").before #[Value.ref b] s = true := hts _ (by decide +kernel)
  have hi : (Cond.initialized "SkipCity$BoroughLaw").before #[Value.ref b] s = true := hts _ (by decide +kernel)
  have key : ∀ j : Nat, j < 6 → (Term.elem (.static "SkipCity$BoroughLaw" "GREATEST" "[I") (.int (Int32.ofNat j))).eval #[Value.ref b] s none [] s = some (.int (Int32.ofInt ((Tab 4).getD j 0))) := by
    intro j hj
    match j, hj with
    | 0, _ => exact va_eqt (hs (.eq (.elem (.static "SkipCity$BoroughLaw" "GREATEST" "[I") (.int 0)) (.int 99)) (by decide +kernel))
    | 1, _ => exact va_eqt (hs (.eq (.elem (.static "SkipCity$BoroughLaw" "GREATEST" "[I") (.int 1)) (.int 9)) (by decide +kernel))
    | 2, _ => exact va_eqt (hs (.eq (.elem (.static "SkipCity$BoroughLaw" "GREATEST" "[I") (.int 2)) (.int 99)) (by decide +kernel))
    | 3, _ => exact va_eqt (hs (.eq (.elem (.static "SkipCity$BoroughLaw" "GREATEST" "[I") (.int 3)) (.int 0)) (by decide +kernel))
    | 4, _ => exact va_eqt (hs (.eq (.elem (.static "SkipCity$BoroughLaw" "GREATEST" "[I") (.int 4)) (.int 0)) (by decide +kernel))
    | 5, _ => exact va_eqt (hs (.eq (.elem (.static "SkipCity$BoroughLaw" "GREATEST" "[I") (.int 5)) (.int 999)) (by decide +kernel))
  obtain ⟨t, cell, h1, h2, h3, h4, h5⟩ := arr_of (args := #[Value.ref b]) (s := s) (tm := (.static "SkipCity$BoroughLaw" "GREATEST" "[I")) (ty := .int) (N := 6) (f := Tab 4) (by decide) rfl (hs _ (by decide +kernel)) (va_eqt (hs (.eq (.length (.static "SkipCity$BoroughLaw" "GREATEST" "[I")) (.int 6)) (by decide +kernel))) key
  exact ⟨t, cell, va_Zof hl hi h1 (fun a ha hn => absurd ha (Nat.not_lt.mpr hn)), h2, h3, h4, h5, ex_cls (hs (.exactly (.static "SkipCity$BoroughLaw" "GREATEST" "[I") "[I") (by decide +kernel)) h1 h2⟩
theorem stat_5 {s : State} {b : Nat} (hts : ∀ w ∈ lw_tbl, w.before #[Value.ref b] s = true) (hgv : (Jvm.Cond.and given_1 narrow_1).before #[Value.ref b] s = true) : ∃ (t : Nat) (cell : Cell), va_Z "java/util/ArrayList" "DEFAULTCAPACITY_EMPTY_ELEMENTDATA" "[Ljava/lang/Object;" (.ref t) (fun q => s.heap.size ≤ q) s s.heap ∧ s.heap[t]? = some cell ∧ s.isArrayOf cell (.object "java/lang/Object") ∧ cell.vm ≠ .unknown ∧ cell.slots = (iv (Tab 5)).toArray ∧ s.vm.findClass "[Ljava/lang/Object;" = some cell.cls := by
  have hs := flat_of_before _ hgv
  have hl : (Cond.laysStatic "java/util/ArrayList" "DEFAULTCAPACITY_EMPTY_ELEMENTDATA" "[Ljava/lang/Object;").before #[Value.ref b] s = true := hts _ (by decide +kernel)
  have hi : (Cond.initialized "java/util/ArrayList").before #[Value.ref b] s = true := hts _ (by decide +kernel)
  have key : ∀ j : Nat, j < 0 → (Term.elem (.static "java/util/ArrayList" "DEFAULTCAPACITY_EMPTY_ELEMENTDATA" "[Ljava/lang/Object;") (.int (Int32.ofNat j))).eval #[Value.ref b] s none [] s = some (.int (Int32.ofInt ((Tab 5).getD j 0))) := by
    intro j hj
    omega
  obtain ⟨t, cell, h1, h2, h3, h4, h5⟩ := arr_of (args := #[Value.ref b]) (s := s) (tm := (.static "java/util/ArrayList" "DEFAULTCAPACITY_EMPTY_ELEMENTDATA" "[Ljava/lang/Object;")) (ty := (.object "java/lang/Object")) (N := 0) (f := Tab 5) (by decide) rfl (hs _ (by decide +kernel)) (va_eqt (hs (.eq (.length (.static "java/util/ArrayList" "DEFAULTCAPACITY_EMPTY_ELEMENTDATA" "[Ljava/lang/Object;")) (.int 0)) (by decide +kernel))) key
  exact ⟨t, cell, va_Zof hl hi h1 (fun a ha hn => absurd ha (Nat.not_lt.mpr hn)), h2, h3, h4, h5, ex_cls (hs (.exactly (.static "java/util/ArrayList" "DEFAULTCAPACITY_EMPTY_ELEMENTDATA" "[Ljava/lang/Object;") "[Ljava/lang/Object;") (by decide +kernel)) h1 h2⟩
theorem arr_one {s : State} {cell : Cell} {t1 t2 : FieldType} (h1 : s.isArrayOf cell t1) (h2 : s.isArrayOf cell t2) : t1 = t2 := by
  obtain ⟨-, k1, a1, c1, b1⟩ := h1
  obtain ⟨-, k2, a2, c2, b2⟩ := h2
  cases a1.symm.trans a2
  rw [b1] at b2
  cases b2
  rfl
theorem sel_ok {s : State} {b : Nat} (hts : ∀ w ∈ lw_tbl, w.before #[Value.ref b] s = true) : ∀ w ∈ xsel, w.before #[Value.ref b] s = true := by
  have i0 : (Cond.instantiable "SkipCity$BoroughLaw" 7).before #[Value.ref b] s = true := hts _ (by decide +kernel)
  have i1 : (Cond.instantiable "SkipCity$TaxLaw" 9).before #[Value.ref b] s = true := hts _ (by decide +kernel)
  have p0 : (Cond.privateMethod ⟨"SkipCity$Text", "readAgain", "()V"⟩).before #[Value.ref b] s = true := hts _ (by decide +kernel)
  have p1 : (Cond.privateMethod ⟨"SkipCity$Text", "readParts", "()I"⟩).before #[Value.ref b] s = true := hts _ (by decide +kernel)
  have m0 : (Cond.instanceMethod ⟨"SkipCity$Text", "readAgain", "()V"⟩).before #[Value.ref b] s = true := hts _ (by decide +kernel)
  have m1 : (Cond.instanceMethod ⟨"SkipCity$Text", "readParts", "()I"⟩).before #[Value.ref b] s = true := hts _ (by decide +kernel)
  have c0 : (Cond.selects "SkipCity$BoroughLaw" ⟨"SkipCity$Text", "append", "(I)I"⟩ ⟨"SkipCity$Text", "append", "(I)I"⟩).before #[Value.ref b] s = true := hts _ (by decide +kernel)
  have c1 : (Cond.selects "SkipCity$TaxLaw" ⟨"SkipCity$Text", "append", "(I)I"⟩ ⟨"SkipCity$Text", "append", "(I)I"⟩).before #[Value.ref b] s = true := hts _ (by decide +kernel)
  intro w hw
  simp only [xsel, List.mem_cons, List.not_mem_nil, or_false] at hw
  rcases hw with rfl | rfl | rfl | rfl
  · exact sel_priv (y' := ⟨"SkipCity$Text", "append", "(I)I"⟩) ⟨by decide +kernel, by decide +kernel⟩ i0 p0 m0 rfl c0
  · exact sel_priv (y' := ⟨"SkipCity$Text", "append", "(I)I"⟩) ⟨by decide +kernel, by decide +kernel⟩ i0 p1 m1 rfl c0
  · exact sel_priv (y' := ⟨"SkipCity$Text", "append", "(I)I"⟩) ⟨by decide +kernel, by decide +kernel⟩ i1 p0 m0 rfl c1
  · exact sel_priv (y' := ⟨"SkipCity$Text", "append", "(I)I"⟩) ⟨by decide +kernel, by decide +kernel⟩ i1 p1 m1 rfl c1
/-- the plain heap at the start -/
noncomputable def heap0 (s : State) (b : Nat) (σ : Nat → Nat) : AH :=
  (fun q => if q = σ 1 then some (33, ((s.heap[q]?).map (fun c => c.slots.toList)).getD []) else if q = σ 5 then some (34, ((s.heap[q]?).map (fun c => c.slots.toList)).getD []) else if q = σ 0 ∨ q = σ 2 ∨ q = σ 3 ∨ q = σ 4 then some (30, ((s.heap[q]?).map (fun c => c.slots.toList)).getD []) else if q = b then some (31, ((s.heap[q]?).map (fun c => c.slots.toList)).getD []) else none, s.heap.size, 0)
set_option maxHeartbeats 4000000 in
theorem start_of {p : Program} {s : State} {m : MethodId} {meth : Method} {c : Code} {b L : Nat} {xs : Nat → Int32} {D : va_G} (C0 : lw_At p s m meth c b L xs) (hK : va_K D cls [] s) : ∃ (σ : Nat → Nat) (h0 : AH), Ctx p s m #[Value.ref b] meth c s.heap.size D σ mLaw ∧ Rep s.heap.size D s s.heap h0 ∧ Start s.heap.size b σ ((List.range L).map xs) h0 := by
  obtain ⟨hx, hb, hr, hml, hown, hts, hX, hbl, hlocks, hgv⟩ := C0
  obtain ⟨a0, e0, z0e, z0, f0, g0, k0, v0⟩ := stat_0 hts hgv
  obtain ⟨a1, e1, z1e, z1, f1, g1, k1⟩ := stat_1 hts hgv
  obtain ⟨a2, e2, z2e, z2, f2, g2, k2, v2⟩ := stat_2 hts hgv
  obtain ⟨a3, e3, z3e, z3, f3, g3, k3, v3⟩ := stat_3 hts hgv
  obtain ⟨a4, e4, z4e, z4, f4, g4, k4, v4⟩ := stat_4 hts hgv
  obtain ⟨a5, e5, z5e, z5, f5, g5, k5, v5⟩ := stat_5 hts hgv
  obtain ⟨w6, hw6, -⟩ := Cond.isRef_spec (flat_of_before _ hgv (.isRef (.mirror "[Ljava/lang/Object;")) (by decide +kernel))
  obtain ⟨c6, k6, a6, m1, m2, m3, -⟩ := Term.mirror_spec hw6
  obtain ⟨scr, s1, s2, s3, s4, s5⟩ := hX
  generalize hσ : (fun i : Nat => match i with | 0 => a0 | 1 => a1 | 2 => a2 | 3 => a3 | 4 => a4 | 5 => a5 | _ => a6) = σ
  have q0 : σ 0 = a0 := (congrFun hσ 0).symm
  have q1 : σ 1 = a1 := (congrFun hσ 1).symm
  have q2 : σ 2 = a2 := (congrFun hσ 2).symm
  have q3 : σ 3 = a3 := (congrFun hσ 3).symm
  have q4 : σ 4 = a4 := (congrFun hσ 4).symm
  have q5 : σ 5 = a5 := (congrFun hσ 5).symm
  have q6 : σ 6 = a6 := (congrFun hσ 6).symm
  clear hσ
  have ne : ∀ {u v : Nat} {cu cv : Cell} {tu tv : FieldType}, s.heap[u]? = some cu → s.isArrayOf cu tu → s.heap[v]? = some cv → s.isArrayOf cv tv → tu ≠ tv → u ≠ v := by
    intro u v cu cv tu tv h1 h2 h3 h4 h5 h6
    subst h6
    cases h1.symm.trans h3
    exact h5 (arr_one h2 h4)
  have wxs : scr.slots.toList = ((List.range L).map xs).map Value.int := by
    apply List.ext_getElem?
    intro j
    by_cases hj : j < L
    · rw [Array.getElem?_toList, s5 j hj]
      simp [hj]
    · rw [List.getElem?_eq_none (by simp; omega), List.getElem?_eq_none (by simp; omega)]
  have hsel := sel_ok hts
  have htb : ∀ w ∈ tb, w.before #[Value.ref b] s = true := fun w hw => (List.mem_append.mp hw).elim (hts w) (hsel w)
  refine ⟨σ, heap0 s b σ, ⟨hx, hb.trans law_b.symm, hml.trans law_l.symm, by rw [law_o]; exact hown, fun w hw => htb w (List.mem_filter.mp hw).1, fun w hw => ?_, hK, fun h => absurd h law_nm, fun i hi => ?_, law_n, by rw [q6]; exact ⟨c6, k6, m1, m2, m3⟩⟩, ⟨rfl, Nat.le_refl _, fun q k fs hq => ?_⟩, rfl, rfl, fun q hq => ?_, ?_, fun i hi => ?_⟩
  · have h1 := (List.mem_filter.mp hw).2
    have h2 := htb w (List.mem_filter.mp hw).1
    cases w <;> first | (simp [isX] at h1; done) | exact va_Nw.of rfl h2 | skip
    rename_i t
    cases t <;> first | (simp [isX] at h1; done) | exact va_AO.of h2
  · match i, hi with
    | 0, _ => rw [q0]; exact z0e
    | 1, _ => rw [q1]; exact z1e
    | 2, _ => rw [q2]; exact z2e
    | 3, _ => rw [q3]; exact z3e
    | 4, _ => rw [q4]; exact z4e
    | 5, _ => rw [q5]; exact z5e
  · have hq0 := hq
    simp only [heap0] at hq
    split at hq
    · rename_i e; cases hq; rw [e, q1, z1]
      exact Or.inr (Or.inr ⟨by omega, by omega, e1, z1, f1, g1, by simp, fun h => by omega, fun h => by omega⟩)
    · split at hq
      · rename_i e; cases hq; rw [e, q5, z5]
        exact Or.inr (Or.inr ⟨by omega, by omega, e5, z5, f5, g5, by simp, fun h => by omega, fun _ => v5⟩)
      · split at hq
        · rename_i e; cases hq
          rcases e with e | e | e | e
          · rw [e, q0, z0]; exact Or.inr (Or.inr ⟨by omega, by omega, e0, z0, f0, g0, by simp, fun _ => v0, fun h => by omega⟩)
          · rw [e, q2, z2]; exact Or.inr (Or.inr ⟨by omega, by omega, e2, z2, f2, g2, by simp, fun _ => v2, fun h => by omega⟩)
          · rw [e, q3, z3]; exact Or.inr (Or.inr ⟨by omega, by omega, e3, z3, f3, g3, by simp, fun _ => v3, fun h => by omega⟩)
          · rw [e, q4, z4]; exact Or.inr (Or.inr ⟨by omega, by omega, e4, z4, f4, g4, by simp, fun _ => v4, fun h => by omega⟩)
        · split at hq
          · rename_i e; cases hq; rw [e, s1]
            exact Or.inr (Or.inr ⟨by omega, by omega, scr, s1, s2, s3, by simp, fun h => by omega, fun h => by omega⟩)
          · cases hq
  · have lt : ∀ {u : Nat} {cu : Cell}, s.heap[u]? = some cu → q ≠ u := fun h h9 => by have := (Array.getElem?_eq_some_iff.mp h).1; omega
    simp only [heap0, q0, q1, q2, q3, q4, q5]
    rw [if_neg (lt z1), if_neg (lt z5), if_neg (by simp [lt z0, lt z2, lt z3, lt z4]), if_neg (by omega)]
  · unfold heap0
    dsimp only
    rw [q0, q1, q2, q3, q4, q5]
    rw [if_neg (ne s1 s2 z1 f1 (by decide)), if_neg (ne s1 s2 z5 f5 (by decide)), s1]
    split
    · exact ⟨30, Or.inl rfl, by rw [← wxs]; rfl⟩
    · exact ⟨31, Or.inr rfl, by rw [if_pos rfl, ← wxs]; rfl⟩
  · have n01 := ne z0 f0 z1 f1 (by decide)
    have n05 := ne z0 f0 z5 f5 (by decide)
    have n21 := ne z2 f2 z1 f1 (by decide)
    have n25 := ne z2 f2 z5 f5 (by decide)
    have n31 := ne z3 f3 z1 f1 (by decide)
    have n35 := ne z3 f3 z5 f5 (by decide)
    have n41 := ne z4 f4 z1 f1 (by decide)
    have n45 := ne z4 f4 z5 f5 (by decide)
    have n51 := ne z5 f5 z1 f1 (by decide)
    match i, hi with
    | 0, _ => unfold heap0; dsimp only; rw [q0, q1, q2, q3, q4, q5]; rw [if_neg n01, if_neg n05, if_pos (Or.inl rfl), z0]; simp [k0, tabK]
    | 1, _ => unfold heap0; dsimp only; rw [q0, q1, q2, q3, q4, q5]; rw [if_pos rfl, z1]; simp [k1, tabK]
    | 2, _ => unfold heap0; dsimp only; rw [q0, q1, q2, q3, q4, q5]; rw [if_neg n21, if_neg n25, if_pos (Or.inr (Or.inl rfl)), z2]; simp [k2, tabK]
    | 3, _ => unfold heap0; dsimp only; rw [q0, q1, q2, q3, q4, q5]; rw [if_neg n31, if_neg n35, if_pos (Or.inr (Or.inr (Or.inl rfl))), z3]; simp [k3, tabK]
    | 4, _ => unfold heap0; dsimp only; rw [q0, q1, q2, q3, q4, q5]; rw [if_neg n41, if_neg n45, if_pos (Or.inr (Or.inr (Or.inr rfl))), z4]; simp [k4, tabK]
    | 5, _ => unfold heap0; dsimp only; rw [q0, q1, q2, q3, q4, q5]; rw [if_neg n51, if_pos rfl, z5]; simp [k5, tabK]
