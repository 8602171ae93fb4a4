/-! ===== what a run leaves of LOADS: no weighing more ===== -/
/-- an instruction that writes no number of weighings -/
noncomputable def nlOp (PM : List Nat) (ai : AI) : Bool := bif Nat.beq ai.1 12 then (spec ai.2.1).2.2.all (fun t => nmem t.2 PM)
  else bif Nat.beq ai.1 9 then !((fks ai.2.1).contains 6 && Nat.beq (fpos ai.2.1) 3)
  else bif Nat.beq ai.1 24 || Nat.beq ai.1 25 then !(Nat.beq ai.2.1 6) else true
noncomputable def nlM (PM : List Nat) : Bool := PM.all (fun M => (codeOf M).all (fun x => nlOp PM x.2))
noncomputable def NL (h h' : AH) : Prop := h.2.1 ≤ h'.2.1 ∧ ∀ a fs', h'.1 a = some (6, fs') → (a < h.2.1 → ∃ fs, h.1 a = some (6, fs) ∧ fs'[3]? = fs[3]?) ∧ (h.2.1 ≤ a → a < h'.2.1 → fs'[3]? = some (.int 0))
theorem am_new6 : (am_new 6)[3]? = some (.int 0) := by decide +kernel
section
variable {σ : Nat → Nat} {PM : List Nat} {ai : AI} {M M' n k q : Nat} {L L' : LV} {S S' As R fs : List Value} {h h' h1 : AH} {o : AO} {t : Option Nat} {Q : Option Value → AH → Prop}
theorem nl_refl : NL h h := ⟨Nat.le_refl _, fun a fs' e => ⟨fun _ => ⟨fs', e, rfl⟩, fun h1 h2 => absurd h2 (by omega)⟩⟩
theorem nl_trans (a : NL h h1) (b : NL h1 h') : NL h h' := by
  obtain ⟨a1, a2⟩ := a
  obtain ⟨b1, b2⟩ := b
  refine ⟨Nat.le_trans a1 b1, fun x fs' e => ⟨fun hx => ?_, fun hx hy => ?_⟩⟩
  · obtain ⟨fs1, c1, c2⟩ := (b2 x fs' e).1 (by omega)
    obtain ⟨fs0, d1, d2⟩ := (a2 x fs1 c1).1 hx
    exact ⟨fs0, d1, c2.trans d2⟩
  · by_cases hz : x < h1.2.1
    · obtain ⟨fs1, c1, c2⟩ := (b2 x fs' e).1 hz
      exact c2.trans ((a2 x fs1 c1).2 hx hz)
    · exact (b2 x fs' e).2 (by omega) hy
theorem nl_set (hs : ∀ fs', o = (6, fs') → ∃ fs, h.1 q = some (6, fs) ∧ fs'[3]? = fs[3]?) : NL h (am_set h q o) := by
  refine ⟨Nat.le_refl _, fun a fs' e => ⟨fun _ => ?_, fun h1 h2 => absurd h2 (by show ¬ a < h.2.1; omega)⟩⟩
  replace e : (if a = q then some o else h.1 a) = some (6, fs') := e
  by_cases hq : a = q
  · rw [if_pos hq] at e
    rw [hq]
    exact hs fs' (Option.some.inj e)
  · rw [if_neg hq] at e
    exact ⟨fs', e, rfl⟩
theorem nl_push (hs : ∀ fs', o = (6, fs') → fs'[3]? = some (.int 0)) : NL h (am_push h o n) := by
  refine ⟨Nat.le_succ _, fun a fs' e => ?_⟩
  replace e : (if a = h.2.1 then some o else h.1 a) = some (6, fs') := e
  by_cases hq : a = h.2.1
  · rw [if_pos hq] at e
    exact ⟨fun h1 => absurd h1 (by omega), fun _ _ => hs fs' (Option.some.inj e)⟩
  · rw [if_neg hq] at e
    refine ⟨fun _ => ⟨fs', e, rfl⟩, fun h1 h2 => ?_⟩
    replace h2 : a < h.2.1 + 1 := h2
    omega
theorem nx_eqo {h2 : AH} {j : Option Nat} (e : nx L S h2 = some (.inl (j, L', S', h'))) : h' = h2 := by
  obtain ⟨-, -, -, rfl⟩ := nx_inj e
  rfl
theorem nl_snew {r : List Value} {x : Int32} (hk : k ≠ 6) (e : s_new x k L r h = some (.inl (t, L', S', h'))) : NL h h' := by
  unfold s_new at e
  split at e
  · rw [nx_eqo e]
    exact nl_push fun fs' ho => absurd (Prod.mk.inj ho).1 hk
  · cases e
theorem step_nl (hp : nlOp PM ai = true) (e : step1 σ ai L S h = some (.inl (t, L', S', h'))) : NL h h' := by
  by_cases hx : pureOp PM ai = true
  · rw [step_pure hx e]
    exact nl_refl
  · obtain ⟨oo, a, c⟩ := ai
    have hc : oo = 12 ∨ (oo = 9 ∨ (oo = 11 ∨ (oo = 24 ∨ (oo = 25 ∨ (oo = 26 ∨ (oo = 29 ∨ (oo = 31 ∨ oo = 35))))))) := by
      by_cases hn : oo = 12 ∨ (oo = 9 ∨ (oo = 11 ∨ (oo = 24 ∨ (oo = 25 ∨ (oo = 26 ∨ (oo = 29 ∨ (oo = 31 ∨ oo = 35)))))))
      · exact hn
      · exfalso
        refine hx ?_
        have no : ∀ n, (n = 12 ∨ (n = 9 ∨ (n = 11 ∨ (n = 24 ∨ (n = 25 ∨ (n = 26 ∨ (n = 29 ∨ (n = 31 ∨ n = 35)))))))) → Nat.beq oo n = false := fun n h1 => by
          cases hb : Nat.beq oo n
          · rfl
          · exact absurd (by rw [beqt hb]; exact h1) hn
        show (bif Nat.beq oo 12 then _ else !(Nat.beq oo 9 || (Nat.beq oo 11 || (Nat.beq oo 24 || (Nat.beq oo 25 || (Nat.beq oo 26 || (Nat.beq oo 29 || (Nat.beq oo 31 || Nat.beq oo 35)))))))) = true
        rw [no 12 (by omega), no 9 (by omega), no 11 (by omega), no 24 (by omega), no 25 (by omega), no 26 (by omega), no 29 (by omega), no 31 (by omega), no 35 (by omega)]
        rfl
    rcases hc with rfl | rfl | rfl | rfl | rfl | rfl | rfl | rfl | rfl
    · exact absurd e (fun h9 => s_call_no h9)
    · replace e : s_put a L S h = some (.inl (t, L', S', h')) := e
      replace hp : (!((fks a).contains 6 && Nat.beq (fpos a) 3)) = true := hp
      unfold s_put at e
      split at e <;> first | (cases e; done) | skip
      split at e <;> first | (cases e; done) | skip
      rename_i v q r k fs hq
      split at e
      · rename_i hc
        rw [nx_eqo e]
        refine nl_set fun fs' ho => ?_
        obtain ⟨e1, e2⟩ := Prod.mk.inj ho
        subst e1
        subst e2
        refine ⟨fs, hq, ?_⟩
        rw [Bool.and_eq_true] at hc
        rw [hc.1, Bool.true_and] at hp
        have h3 : fpos a ≠ 3 := fun e3 => by
          rw [e3] at hp
          exact Bool.noConfusion (show false = true from hp)
        rw [List.getElem?_set_ne h3]
      · cases e
    · replace e : s_ast a L S h = some (.inl (t, L', S', h')) := e
      unfold s_ast at e
      split at e <;> first | (cases e; done) | skip
      split at e <;> first | (cases e; done) | skip
      rename_i v j q r k fs hq
      split at e
      · rename_i hc
        rw [nx_eqo e]
        refine nl_set fun fs' ho => ?_
        exfalso
        have e1 := (Prod.mk.inj ho).1
        subst e1
        rw [Bool.and_eq_true] at hc
        have hc := hc.1
        unfold am_st at hc
        split at hc
        · cases hc
        · cases hc
        · cases hc
        · cases hc
        · split at hc
          · rw [Bool.and_eq_true] at hc
            exact Bool.noConfusion (show false = true from hc.2)
          · cases hc
        · cases hc
      · cases e
    · replace e : s_newa a L S h = some (.inl (t, L', S', h')) := e
      have h6 : a ≠ 6 := fun e6 => by
        subst e6
        exact Bool.noConfusion (show false = true from hp)
      unfold s_newa at e
      split at e
      · exact nl_snew h6 e
      · cases e
    · replace e : s_newa a L S h = some (.inl (t, L', S', h')) := e
      have h6 : a ≠ 6 := fun e6 => by
        subst e6
        exact Bool.noConfusion (show false = true from hp)
      unfold s_newa at e
      split at e
      · exact nl_snew h6 e
      · cases e
    · replace e : nx L (.ref h.2.1 :: S) (am_push h (a, am_new a) (kNn a)) = some (.inl (t, L', S', h')) := e
      rw [nx_eqo e]
      refine nl_push fun fs' ho => ?_
      obtain ⟨e1, e2⟩ := Prod.mk.inj ho
      subst e1
      subst e2
      exact am_new6
    · replace e : s_acp L S h = some (.inl (t, L', S', h')) := e
      unfold s_acp at e
      split at e <;> first | (cases e; done) | skip
      split at e <;> first | (cases e; done) | skip
      split at e
      · rw [nx_eqo e]
        exact nl_set fun fs' ho => absurd (Prod.mk.inj ho).1 (by omega)
      · cases e
    · replace e : s_clone L S h = some (.inl (t, L', S', h')) := e
      unfold s_clone at e
      split at e <;> first | (cases e; done) | skip
      split at e <;> first | (cases e; done) | skip
      split at e
      · rw [nx_eqo e]
        exact nl_push fun fs' ho => absurd (Prod.mk.inj ho).1 (by omega)
      · cases e
    · replace e : s_acr L S h = some (.inl (t, L', S', h')) := e
      unfold s_acr at e
      split at e <;> first | (cases e; done) | skip
      split at e <;> first | (cases e; done) | skip
      split at e
      · rw [nx_eqo e]
        exact nl_set fun fs' ho => absurd (Prod.mk.inj ho).1 (by omega)
      · cases e
theorem nl_in (hP : nlM PM = true) (hM : M ∈ PM) : ∀ x, x ∈ codeOf M → nlOp PM x.2 = true := fun x hx => List.all_eq_true.mp (List.all_eq_true.mp hP M hM) x hx
theorem nl_call (hp : nlOp PM ai = true) (hs : step1 σ ai L S h = some (.inr (.inl (M', As, R)))) : M' ∈ PM := by
  obtain ⟨e, k, hk⟩ := call_to hs
  unfold nlOp at hp
  rw [e, Nat.beq_refl, cond_true] at hp
  exact nmem_ok (List.all_eq_true.mp hp _ hk)
theorem run_nl (hP : nlM PM = true) : ∀ (f M : Nat) (cd : List (Nat × AI)) (L : LV) (S : List Value) (h : AH) (r : Option Value × AH), M ∈ PM → (∀ x, x ∈ cd → nlOp PM x.2 = true) → run σ f M cd L S h = some r → NL h r.2 := by
  intro f
  induction f with
  | zero => intro M cd L S h r _ _ hs; cases hs
  | succ f ih =>
    intro M cd L S h r hM hcd hs
    cases cd with
    | nil => cases hs
    | cons x tl =>
      obtain ⟨pc, ai⟩ := x
      have hai := hcd (pc, ai) List.mem_cons_self
      have htl := fun x hx => hcd x (List.mem_cons_of_mem _ hx)
      rw [run] at hs
      split at hs
      · cases hs
      · rename_i lv' st' h' h1
        exact nl_trans (step_nl hai h1) (ih _ _ _ _ _ _ hM htl hs)
      · rename_i t lv' st' h' h1
        refine nl_trans (step_nl hai h1) (ih _ _ _ _ _ _ hM (fun x hx => nl_in hP hM x ?_) hs)
        rw [jump_jmp] at hx
        obtain ⟨a, ha⟩ := jmp_suffix t (codeOf M)
        rw [ha]
        exact List.mem_append_right _ hx
      · rename_i M2 As R h1
        have hM2 := nl_call hai h1
        split at hs
        · cases hs
        · rename_i v h' hv
          exact nl_trans (ih _ _ _ _ _ _ hM2 (nl_in hP hM2) hv) (ih _ _ _ _ _ _ hM htl hs)
      · cases hs
        exact nl_refl
theorem rt_nl (hP : nlM PM = true) (hM : M ∈ PM) (hr : Rt σ M (codeOf M) L S h Q) : Rt σ M (codeOf M) L S h (fun v h' => NL h h' ∧ Q v h') := by
  obtain ⟨f, v, h', e, q⟩ := hr
  exact ⟨f, v, h', e, run_nl hP f M _ L S h _ hM (nl_in hP hM) e, q⟩
end
