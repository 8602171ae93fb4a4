/-! ===== the plain heap and the machine's ===== -/
theorem sel_priv {C : String} {y : MethodName} {s : State} {args : Array Value} {n : Nat} (hy : y.cls ≠ "java/lang/invoke/MethodHandle" ∧ y.cls ≠ "java/lang/invoke/VarHandle")
    (hins : (Cond.instantiable C n).before args s = true) (hpriv : (Cond.privateMethod y).before args s = true) (hinst : (Cond.instanceMethod y).before args s = true) {y' : MethodName} (hc' : y'.cls = y.cls) (hs' : (Cond.selects C y' y').before args s = true) :
    (Cond.selects C y y).before args s = true := by
  obtain ⟨c, k, hc, hk, -, hniab, -, -⟩ := Cond.instantiable_spec hins
  have hni : k.isInterface = false := (Bool.or_eq_false_iff.mp hniab).1
  obtain ⟨mk, methM, hnamed, hmethM, -, -⟩ := Cond.instanceMethod_spec hinst
  have hfound : s.methodFound? y.cls y.name y.desc = some mk := State.methodFound?_of_named hnamed hy
  have hsel : selectMethod {} s.vm c mk = .method mk := selectMethod_private hmethM (Cond.privateMethod_at hpriv mk methM hnamed hmethM)
  obtain ⟨c2, r2, m2, q1, q2, q3, q4, kP, hkP, hkPi⟩ := Cond.selects_spec hs'
  have hcl : m2.cls = mk.cls := by
    have e1 := findClass_of_methodNamed q3
    have e2 := findClass_of_methodNamed hnamed
    rw [hc'] at e1
    exact Option.some.inj (e1.symm.trans e2)
  rw [hcl] at hkP
  simp only [Cond.before, Cond.holds, Cond.value, hc, hfound, hnamed, hsel, hk, hkP]
  simp [hkPi]
noncomputable def isX (w : Cond) : Bool := match w with
  | .arrayOver (.object _) => true
  | .methodLinkNest .. => true
  | .castable .. => true
  | .declares _ => true
  | _ => false
noncomputable def xw : List Cond := tb.filter isX
theorem xw_warm {w : Cond} {s U : State} (hx : isX w = true) (hW : s.WarmedH U.vm) (h : va_Nw w s) : va_Nw w U := by
  cases w <;> first | exact va_Nw.warmM hW h | exact va_Nw.warmC hW h | exact va_Nw.warmD hW h | (simp [isX] at hx; done) | skip
  rename_i t
  cases t <;> first | exact va_AO.moved hW.alike h | (simp [isX] at hx; done)
noncomputable def tyK (k : Nat) : FieldType := match k with
  | 20 => .int
  | 21 => .long
  | 22 => .boolean
  | 23 => .char
  | 24 => .object "java/lang/Object"
  | 25 => .object "SkipCity$BoroughLaw"
  | 26 => .object "SkipCity$Sheet"
  | 30 => .int
  | 31 => .int
  | 33 => .char
  | _ => .object "java/lang/Object"
noncomputable def CellOK (base : Nat) (D : va_G) (s : State) (H : Heap) (q k : Nat) (fs : List Value) : Prop :=
  (k < 13 ∧ base ≤ q ∧ fs.length = kNn k ∧ t_OB q (D.1 k) (kNn k) (D.2 k) H (vp_V fs)) ∨
  (20 ≤ k ∧ k < 27 ∧ base ≤ q ∧ ∃ cA : ClassId, H[q]? = some (arrV cA fs.length (vp_V fs)) ∧ ArrOfT s cA (tyK k) ∧ va_RA s cA (tyK k)) ∨
  (30 ≤ k ∧ k < 35 ∧ ∃ cell : Cell, H[q]? = some cell ∧ s.isArrayOf cell (tyK k) ∧ cell.vm ≠ .unknown ∧ cell.slots = fs.toArray ∧ (k = 30 → s.vm.findClass "[I" = some cell.cls) ∧ (k = 34 → s.vm.findClass "[Ljava/lang/Object;" = some cell.cls))
noncomputable def Rep (base : Nat) (D : va_G) (s : State) (H : Heap) (h : AH) : Prop := H.size = h.2.1 ∧ base ≤ H.size ∧ ∀ q k fs, h.1 q = some (k, fs) → CellOK base D s H q k fs
theorem CellOK.lt {base : Nat} {D : va_G} {s : State} {H : Heap} {q k : Nat} {fs : List Value} (h : CellOK base D s H q k fs) : q < H.size := by
  rcases h with ⟨-, -, -, cell, h, -⟩ | ⟨-, -, -, cA, h, -⟩ | ⟨-, -, cell, h, -⟩ <;> exact (Array.getElem?_eq_some_iff.mp h).1
theorem CellOK.kept {base : Nat} {D : va_G} {s : State} {H H' : Heap} {q k : Nat} {fs : List Value} (h : CellOK base D s H q k fs) (e : H'[q]? = H[q]?) : CellOK base D s H' q k fs := by
  rcases h with ⟨h1, h2, h3, h4⟩ | ⟨h1, h2, h3, cA, h4, h5⟩ | ⟨h1, h2, cell, h4, h5⟩
  · exact Or.inl ⟨h1, h2, h3, h4.kept e⟩
  · exact Or.inr (Or.inl ⟨h1, h2, h3, cA, by rw [e]; exact h4, h5⟩)
  · exact Or.inr (Or.inr ⟨h1, h2, cell, by rw [e]; exact h4, h5⟩)
theorem CellOK.moved {base : Nat} {D : va_G} {s U : State} {H : Heap} {q k : Nat} {fs : List Value} (hvm : s.vm.Alike U.vm) (h : CellOK base D s H q k fs) : CellOK base D U H q k fs := by
  rcases h with h | ⟨h1, h2, h3, cA, h4, h5, h6⟩ | ⟨h1, h2, cell, h4, h5, h6, h7, h8, h9⟩
  · exact Or.inl h
  · exact Or.inr (Or.inl ⟨h1, h2, h3, cA, h4, arrOfT_moved hvm h5, h6.moved hvm⟩)
  · exact Or.inr (Or.inr ⟨h1, h2, cell, h4, State.isArrayOf_alike hvm h5, h6, h7, fun e => by rw [hvm.findClass]; exact h8 e, fun e => by rw [hvm.findClass]; exact h9 e⟩)
theorem Rep.moved {base : Nat} {D : va_G} {s U : State} {H : Heap} {h : AH} (hvm : s.vm.Alike U.vm) (hR : Rep base D s H h) : Rep base D U H h :=
  ⟨hR.1, hR.2.1, fun q k fs hq => (hR.2.2 q k fs hq).moved hvm⟩
/-- a cell is written -/
theorem Rep.set {base : Nat} {D : va_G} {s : State} {H H' : Heap} {h : AH} {q k : Nat} {fs : List Value} (hR : Rep base D s H h) (hz : H'.size = H.size) (ho : ∀ j, j ≠ q → H'[j]? = H[j]?) (hq : CellOK base D s H' q k fs) : Rep base D s H' (am_set h q (k, fs)) := by
  refine ⟨hz.trans hR.1, by rw [hz]; exact hR.2.1, fun j k' fs' hj => ?_⟩
  by_cases e : j = q
  · subst e
    simp only [am_set, if_true] at hj
    cases hj
    exact hq
  · simp only [am_set, e, if_false] at hj
    exact (hR.2.2 j k' fs' hj).kept (ho j e)
/-- a cell is made -/
theorem Rep.push {base n : Nat} {D : va_G} {s : State} {H H' : Heap} {h : AH} {k : Nat} {fs : List Value} (hR : Rep base D s H h) (hz : H'.size = H.size + 1) (ho : ∀ j, j < H.size → H'[j]? = H[j]?) (hq : CellOK base D s H' H.size k fs) : Rep base D s H' (am_push h (k, fs) n) := by
  refine ⟨by rw [hz, hR.1]; rfl, by rw [hz]; exact Nat.le_succ_of_le hR.2.1, fun j k' fs' hj => ?_⟩
  by_cases e : j = h.2.1
  · subst e
    simp only [am_push, if_true] at hj
    cases hj
    rw [← hR.1]; exact hq
  · simp only [am_push, e, if_false] at hj
    have h1 := hR.2.2 j k' fs' hj
    exact h1.kept (ho j h1.lt)
/-- rows as read -/
theorem CellOK.arr {base : Nat} {D : va_G} {s : State} {H : Heap} {q k : Nat} {fs : List Value} (h : CellOK base D s H q k fs) (hk : 20 ≤ k) : ∃ cell : Cell, H[q]? = some cell ∧ s.isArrayOf cell (tyK k) ∧ cell.vm ≠ .unknown ∧ cell.slots.size = fs.length ∧ ∀ (j : Nat) (v : Value), fs[j]? = some v → cell.slots[j]? = some v := by
  rcases h with ⟨h1, -⟩ | ⟨h1, h2, h3, cA, h4, h5, h6⟩ | ⟨h1, h2, cell, h4, h5, h6, h7, -, -⟩
  · omega
  · refine ⟨_, h4, h5 _ _, fun e => (by cases e), arrV_size _ _ _, fun j v hv => ?_⟩
    have hlt : j < fs.length := (List.getElem?_eq_some_iff.mp hv).1
    rw [arrV_read _ _ hlt]
    simp [vp_V, hv]
  · refine ⟨cell, h4, h5, h6, by rw [h7]; simp, fun j v hv => by rw [h7]; simpa using hv⟩
