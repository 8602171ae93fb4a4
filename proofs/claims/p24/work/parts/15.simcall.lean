/-! ===== calls, returns, and the whole of a method ===== -/
noncomputable def wsM (M : Nat) : List Cond := Cond.code (mY M) (mB M) (mL M) (mR M) :: gt
noncomputable def rmM (M mc ms : Nat) : Room := { frames := mF M, cells := mc, slots := ms, locals := mW M }
theorem goodIn_gt {ws : List Cond} (h : ∀ w ∈ ws, w ∈ gt) : GoodIn gt ws := fun w hw => ⟨h w hw, good_of_word (List.mem_filter.mp (h w hw)).2⟩
def MPre (base : Nat) (D : va_G) (σ : Nat → Nat) (as : List Value) (h : AH) : Array Value → State → Prop := fun av U => av = as.toArray ∧ (∀ w ∈ xw, va_Nw w U) ∧ va_K D cls [] U ∧ (∀ i, i < 6 → va_Z (st3 i).1 (st3 i).2.1 (st3 i).2.2 (.ref (σ i)) (fun q => base ≤ q) U U.heap) ∧ Rep base D U U.heap h ∧ MirOK U (σ 6)
def MPost (base : Nat) (D : va_G) (r : Option Value) (h' : AH) : Array Value → State → Outcome → State → Prop := fun _ st oc t => oc = .returned r ∧ Rep base D t t.heap h' ∧ va_F (fun q => base ≤ q) st t
theorem xw_vm {w : Cond} {s U : State} (hx : isX w = true) (hv : s.vm = U.vm) (h : va_Nw w s) : va_Nw w U := by
  cases w <;> first | (simp [isX] at hx; done) | exact va_tabs rfl hv h | skip
  rename_i t
  cases t <;> first | (simp [isX] at hx; done) | exact va_AO.moved (hv ▸ Vm.Alike.refl _) h
theorem mpre_blind {base : Nat} {D : va_G} {σ : Nat → Nat} {as : List Value} {h : AH} : FrameBlind (MPre base D σ as h) := by
  intro a U g mk ⟨h1, h2, h3, h4, h5, h6⟩
  exact ⟨h1, fun w hw => xw_vm (s := U) (List.mem_filter.mp hw).2 rfl (h2 w hw), va_K.moved (u := U) (U := U.calling g mk a) (Vm.Alike.refl U.vm) h3, fun i hi => va_Z.moved (u := U) (U := U.calling g mk a) (Vm.Alike.refl U.vm) (h4 i hi), Rep.moved (s := U) (U := U.calling g mk a) (Vm.Alike.refl U.vm) h5, MirOK.moved (s := U) (U := U.calling g mk a) (Vm.Alike.refl U.vm) h6⟩
theorem va_Z_kept {C n d : String} {v : Value} {base : Nat} {U : State} {H0 H : Heap} {locs : List Loc} (h : va_Z C n d v (fun q => base ≤ q) U H0) (hS : va_S (fun q => base ≤ q) H0 H locs) : va_Z C n d v (fun q => base ≤ q) U H := by
  obtain ⟨cf, kf, fi, f, a, cell, h1, h2, h3, h4, h5, h6, h7, h8⟩ := h
  exact ⟨cf, kf, fi, f, a, cell, h1, h2, h3, h4, (hS.2.1 a (Array.getElem?_eq_some_iff.mp h5).1 h8).trans h5, h6, h7, h8⟩
theorem s_call_spec {i : Nat} {st : List Value} {h : AH} {M' : Nat} {as r : List Value} (hst : s_call i st h = some (.inr (.inl (M', as, r)))) :
    ((spec i).1 = 0 ∧ as.length = (spec i).2.1 ∧ st = as.reverse ++ r ∧ am_w r ≤ 8 ∧ (∃ k, (k, M') ∈ (spec i).2.2)) ∨
    ((spec i).1 = 1 ∧ ∃ as' q k fs, as = .ref q :: as' ∧ as'.length = (spec i).2.1 ∧ st = as'.reverse ++ .ref q :: r ∧ am_w r ≤ 8 ∧ h.1 q = some (k, fs) ∧ (k, M') ∈ (spec i).2.2) := by
  have hsplit : st = ((st.take (spec i).2.1).reverse).reverse ++ st.drop (spec i).2.1 := by rw [List.reverse_reverse, List.take_append_drop]
  unfold s_call at hst
  dsimp only at hst
  generalize (st.take (spec i).2.1).reverse = as0 at hst hsplit
  generalize st.drop (spec i).2.1 = r0 at hst hsplit
  split at hst
  · rename_i hlen
    split at hst
    · rename_i e0
      split at hst
      · rename_i k M9 e1
        split at hst
        · rename_i hw
          cases hst
          exact Or.inl ⟨e0, hlen, hsplit, hw.1, k, by rw [e1]; exact List.mem_cons_self⟩
        · cases hst
      · cases hst
    · rename_i e0
      split at hst
      · rename_i q r2
        split at hst
        · rename_i k fs hq
          split at hst
          · rename_i k2 M9 e1
            split at hst
            · rename_i hw
              cases hst
              have h2 := List.find?_some e1
              have h3 : k2 = k := by simpa using h2
              subst h3
              exact Or.inr ⟨e0, as0, q, k2, fs, rfl, hlen, hsplit, hw.1, hq, List.mem_of_find?_eq_some e1⟩
            · cases hst
          · cases hst
        · cases hst
      · cases hst
    · cases hst
  · cases hst
theorem s_call_ok {i : Nat} {st : List Value} {h : AH} {M' : Nat} {as r : List Value} (hst : s_call i st h = some (.inr (.inl (M', as, r)))) : am_ok as M' = true := by
  unfold s_call at hst
  dsimp only at hst
  split at hst
  · split at hst
    · split at hst
      · split at hst
        · rename_i hw; cases hst; exact hw.2
        · cases hst
      · cases hst
    · split at hst
      · split at hst
        · split at hst
          · split at hst
            · rename_i hw; cases hst; exact hw.2
            · cases hst
          · cases hst
        · cases hst
      · cases hst
    · cases hst
  · cases hst
theorem ck_rm : (List.range nM).all (fun M => (codeOf M).all (fun x => if x.2.1 = 12 then (spec x.2.2.1).2.2.all (fun t => decide (mF t.2 + 1 ≤ mF M) && decide (8 + (mL t.2 + 11) + mW t.2 ≤ mW M)) else if 29 ≤ x.2.1 then decide (x.2.1 = 99) || (decide (1 ≤ mF M) && decide (30 ≤ mW M)) else true)) = true := by decide +kernel
noncomputable def codeEq (M : Nat) (w : Cond) : Bool := match w with
  | .code y b l r => decide (y = mY M) && (decide (b.data.toList = (mB M).data.toList) && (decide (l = mL M) && decide (r = mR M)))
  | _ => false
theorem codeEq_spec {M : Nat} {w : Cond} (h : codeEq M w = true) : w = .code (mY M) (mB M) (mL M) (mR M) := by
  unfold codeEq at h
  split at h
  · rename_i y b l r
    simp only [Bool.and_eq_true, decide_eq_true_eq] at h
    obtain ⟨h1, h2, h3, h4⟩ := h
    have h5 : b = mB M := by
      generalize mB M = b2 at h2 ⊢
      obtain ⟨⟨b⟩⟩ := b
      obtain ⟨⟨b2⟩⟩ := b2
      cases h2
      rfl
    rw [h1, h5, h3, h4]
  · cases h
noncomputable def ssqc : List Nat → List Cond → Bool
  | _, [] => false
  | [], _ :: _ => true
  | M :: ws, t :: ts => if codeEq M t then (match ws with | [] => true | _ :: _ => ssqc ws ts) else ssqc (M :: ws) ts
theorem ssqc_mem : ∀ {ts : List Cond} {ws : List Nat}, ssqc ws ts = true → ∀ M ∈ ws, Cond.code (mY M) (mB M) (mL M) (mR M) ∈ ts := by
  intro ts
  induction ts with
  | nil => intro ws h; cases ws <;> simp [ssqc] at h
  | cons t ts ih =>
    intro ws h w hw
    cases ws with
    | nil => cases hw
    | cons w0 ws =>
      unfold ssqc at h
      split at h
      · rename_i e
        rcases List.mem_cons.mp hw with rfl | hw
        · rw [← codeEq_spec e]; exact List.mem_cons_self
        · cases ws with
          | nil => cases hw
          | cons a b => exact List.mem_cons_of_mem _ (ih h w hw)
      · exact List.mem_cons_of_mem _ (ih h w hw)
theorem ck_cdl : ssqc cdl tb = true := by decide +kernel
theorem m_row {M : Nat} (hM : M < nM) (hl : M ≠ mLaw) : Cond.code (mY M) (mB M) (mL M) (mR M) ∈ gt ∧ Cond.initialized (mY M).cls ∈ gt := by
  have h1 := List.all_eq_true.mp ck_a5 M (List.mem_range.mpr hM)
  rw [Bool.or_eq_true] at h1
  rcases h1 with h1 | h1
  · exact absurd (by simpa using h1) hl
  · rw [Bool.and_eq_true] at h1
    exact ⟨List.mem_filter.mpr ⟨ssqc_mem ck_cdl M (List.contains_iff_mem.mp h1.1), rfl⟩, gt_of ck_inl (List.mem_map.mpr ⟨_, List.contains_iff_mem.mp h1.2, rfl⟩) rfl⟩
theorem m_row2 {M : Nat} (hM : M < nM) : plainName (mY M).cls = true ∧ ((mY M).cls ≠ "java/lang/invoke/MethodHandle" ∧ (mY M).cls ≠ "java/lang/invoke/VarHandle") ∧ on (mO M) = (mY M).cls ∧ (parseMethodDescriptor (mY M).desc).map (fun d => d.parameters.length) = some (mN M) := by
  have h1 := List.all_eq_true.mp ck_a1 M (List.mem_range.mpr hM)
  have h2 := List.all_eq_true.mp ck_a2 M (List.mem_range.mpr hM)
  have h3 := List.all_eq_true.mp ck_a3 M (List.mem_range.mpr hM)
  have h4 := List.all_eq_true.mp ck_a4 M (List.mem_range.mpr hM)
  simp only [Bool.and_eq_true, decide_eq_true_eq] at h2 h3 h4
  exact ⟨h1, h2, h3, h4⟩
