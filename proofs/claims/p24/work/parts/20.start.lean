/-! ===== the law's entry: from the machine's start to the plain machine's ===== -/
theorem law_b : mB mLaw = code := by rfl
theorem law_l : mL mLaw = 4 := by decide +kernel
theorem law_r : mR mLaw = ret := by rfl
theorem law_o : on (mO mLaw) = "SkipCityLaw" := by decide +kernel
theorem law_n : mLaw < nM := by decide +kernel
theorem law_nm : (mY mLaw).name ≠ "<init>" := by decide +kernel
theorem law_room : mF mLaw ≤ room_1.frames ∧ mW mLaw ≤ room_1.locals := by decide +kernel
def iv (l : List Int) : List Value := l.map (fun z => .int (Int32.ofInt z))
/-- an array that stands from the start, as a list -/
theorem arr_of {args : Array Value} {s : State} {tm : Term} {ty : FieldType} {N : Nat} {f : List Int} (hN : N < 2 ^ 31) (hf : f.length = N) (harr : (Cond.arrayOf tm ty).before args s = true) (hlen : (Term.length tm).eval args s none [] s = some (.int (Int32.ofNat N))) (hel : ∀ j : Nat, j < N → (Term.elem tm (.int (Int32.ofNat j))).eval args s none [] s = some (.int (Int32.ofInt (f.getD j 0)))) : ∃ (t : Nat) (cell : Cell), tm.eval args s none [] s = some (.ref t) ∧ s.heap[t]? = some cell ∧ s.isArrayOf cell ty ∧ cell.vm ≠ .unknown ∧ cell.slots = (iv f).toArray := by
  have hlen0 := hlen
  obtain ⟨t, cell, ht, hat, hv⟩ := Term.length_spec hlen
  obtain ⟨hcell, hkn, -, -⟩ := State.arrayAt?_spec hat
  obtain ⟨hof, -⟩ := Cond.arrayOf_spec harr ht hcell
  have hsz : cell.slots.size < 2 ^ 31 := by
    simp only [Term.eval, ht, hat, Option.bind_eq_bind, Option.bind_some] at hlen0
    by_cases hlt : cell.slots.size < 2147483648
    · exact hlt
    · simp [hlt] at hlen0
  have hsz2 : cell.slots.size = N := by
    have h1 : Int32.ofNat N = cell.slots.size.toInt32 := Value.int.inj hv
    have h2 : (Int32.ofNat N).toNatClampNeg = N := Int32.toNatClampNeg_ofNat_of_lt hN
    have h3 : (Int32.ofNat cell.slots.size).toNatClampNeg = cell.slots.size := Int32.toNatClampNeg_ofNat_of_lt hsz
    rw [h1] at h2
    exact h3.symm.trans h2
  have key : ∀ j : Nat, j < N → cell.slots[j]? = some (.int (Int32.ofInt (f.getD j 0))) := by
    intro j hj
    obtain ⟨a, i, cell2, h1, h2, h3, h4, h5⟩ := Term.elem_spec (hel j hj)
    cases ht.symm.trans h1
    cases hat.symm.trans h3
    have hi : i = Int32.ofNat j := by
      have e : (Term.int (Int32.ofNat j)).eval args s none [] s = some (.int (Int32.ofNat j)) := rfl
      cases h2.symm.trans e
      rfl
    have hc : i.toNatClampNeg = j := by rw [hi]; exact Int32.toNatClampNeg_ofNat_of_lt (Nat.lt_trans hj hN)
    rw [hc] at h5
    exact h5
  refine ⟨t, cell, ht, hcell, hof, hkn, ?_⟩
  apply Array.ext
  · simp [iv, hsz2, hf]
  · intro i h1 h2
    have h3 := key i (by omega)
    rw [Array.getElem?_eq_getElem h1] at h3
    have h4 : i < f.length := by omega
    simp [iv]
    have := Option.some.inj h3
    rw [this]
    simp [h4]
def Tab (i : Nat) : List Int := match i with
  | 0 => [14, 2, 5, 0, 0, 40]
  | 1 => [100, 108, 99, 101, 104, 111]
  | 2 => [2, 2, 2, 0, 0, 3]
  | 3 => [1, 0, 0, 0, 0, 0]
  | 4 => [99, 9, 99, 0, 0, 999]
  | _ => []
def tabK (i : Nat) : Nat := match i with
  | 1 => 33
  | 5 => 34
  | _ => 30
/-- what a run begins with -/
def Start (base b : Nat) (σ : Nat → Nat) (xs : List Int32) (h0 : AH) : Prop :=
  h0.2.1 = base ∧ h0.2.2 = 0 ∧ (∀ q, base ≤ q → h0.1 q = none) ∧ (∃ kb, (kb = 30 ∨ kb = 31) ∧ h0.1 b = some (kb, xs.map .int)) ∧ ∀ i, i < 6 → h0.1 (σ i) = some (tabK i, iv (Tab i))
theorem ex_cls {args : Array Value} {s : State} {tm : Term} {C : String} {t : Nat} {cell : Cell} (h : (Cond.exactly tm C).before args s = true) (ht : tm.eval args s none [] s = some (.ref t)) (hcell : s.heap[t]? = some cell) : s.vm.findClass C = some cell.cls := by
  obtain ⟨a', cA, lc, kA, ha', hA, hlc, hkA, hlstat, hlcls, -⟩ := Cond.exactly_spec h
  cases ht.symm.trans ha'
  cases hcell.symm.trans hlc
  rw [hlcls]; exact hA
