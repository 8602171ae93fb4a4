theorem sl_len {as : List Value} (h : as.all (fun v => v.category == 1) = true) : (lg_sl as).length = as.length := by
  induction as with
  | nil => rfl
  | cons v r ih =>
    rw [List.all_cons, Bool.and_eq_true] at h
    have h1 : v.category = 1 := by simpa using h.1
    have h2 := ih h.2
    have h3 : ¬ v.category = 2 := by omega
    have e : lg_sl (v :: r) = [Slot.val v] ++ lg_sl r := by simp [lg_sl, h3]
    rw [e, List.length_append, h2]
    simp; omega
theorem args_eq {as : List Value} (h : as.all (fun v => v.category == 1) = true) : ∀ i, lv_args i as = am_args i as := by
  induction as with
  | nil => intro i; rfl
  | cons v r ih =>
    intro i
    rw [List.all_cons, Bool.and_eq_true] at h
    have h1 : v.category = 1 := by simpa using h.1
    have h2 := ih h.2
    have h3 : ¬ v.category = 2 := by omega
    simp [lv_args, am_args, h3, h2]
theorem met_all (l : Launch) (base : Nat) (D : va_G) (σ : Nat → Nat) : ∀ f, MetA l base D σ f := by
  intro f
  induction f using Nat.strongRecOn with
  | _ f IH =>
    intro M as h r h' hM hML hok hrun
    have hmono := run_mono hrun
    refine ⟨hmono.1, hmono.2, ?_⟩
    refine Met.ofW (cc := mB M) (maxL := mL M) (ret := mR M) (m_row2 hM).1 rfl ?_
    intro p e s m args below meth c s₁ B hml hv
    obtain ⟨rfl, hxw, hK, hZ, hR, hMi⟩ := hv
    have hx := B.exec
    have hb := B.bytes
    have hr := B.returns
    have hts := atoms_spec (ws := wsM M) B.pre
    have hown : s.vm.findClass (mY M).cls = some m.cls := findClass_of_methodNamed B.named
    have hlocks := B.notSynchronized
    have hnm := (name_of_methodNamed B.named B.method).1
    have C : Ctx p s m as.toArray meth c base D σ M := ⟨hx, hb, hml, by rw [(m_row2 hM).2.2.1]; exact hown, fun w hw => hts w (List.mem_cons_of_mem _ hw), hxw, hK, fun h9 => hnm.trans h9, hZ, hM, hMi⟩
    unfold am_ok at hok
    rw [Bool.and_eq_true, decide_eq_true_eq] at hok
    have hl := lv_entry as (n := mL M) (by rw [sl_len hok.1]; exact hok.2)
    rw [args_eq hok.1] at hl
    rw [lg_entry_eq]
    have hg := goodC_all hM
    have := sim_run (e := e) (R := (headSpec (wsM M) (rmM M (h'.2.1 - h.2.1) (h'.2.2 - h.2.2))).room) (below := below) C f IH ⟨Nat.le_refl _, Nat.le_refl _⟩ r h' ⟨Nat.le_refl _, Nat.le_refl _⟩ (end_of C hr hlocks r h') f (Nat.le_refl _) 0 (codeOf M) (am_args 0 as) [] h (fun x hx => hx) hg.1 hg.2 ⟨Nat.le_refl _, Nat.le_refl _⟩ hrun s.heap [] _ hR va_S.rf hl
    rw [Nat.sub_self, Nat.sub_self] at this
    exact this
