/-! ===== methods that change nothing ===== -/
noncomputable def pureOp (PM : List Nat) (ai : AI) : Bool := bif Nat.beq ai.1 12 then (spec ai.2.1).2.2.all (fun t => nmem t.2 PM) else !(Nat.beq ai.1 9 || (Nat.beq ai.1 11 || (Nat.beq ai.1 24 || (Nat.beq ai.1 25 || (Nat.beq ai.1 26 || (Nat.beq ai.1 29 || (Nat.beq ai.1 31 || Nat.beq ai.1 35)))))))
noncomputable def pureM (PM : List Nat) : Bool := PM.all (fun M => (codeOf M).all (fun x => pureOp PM x.2))
section
variable {σ : Nat → Nat} {PM : List Nat} {ai : AI} {M M' : Nat} {L L' : LV} {S S' As R : List Value} {h h' : AH} {t : Option Nat} {cd : List (Nat × AI)} {Q : Option Value → AH → Prop}
theorem nx_eq {j : Option Nat} (e : nx L S h = some (.inl (j, L', S', h'))) : h' = h := by
  obtain ⟨-, -, -, rfl⟩ := nx_inj e
  rfl
theorem jp_eq {c : Int} {j : Option Nat} (e : jp c L S h = some (.inl (j, L', S', h'))) : h' = h := by
  obtain ⟨-, -, -, rfl⟩ := jp_inj e
  rfl
theorem step_pure (hp : pureOp PM ai = true) (e : step1 σ ai L S h = some (.inl (t, L', S', h'))) : h' = h := by
  have no : ∀ n, n = 9 ∨ (n = 11 ∨ (n = 24 ∨ (n = 25 ∨ (n = 26 ∨ (n = 29 ∨ (n = 31 ∨ n = 35)))))) → ai.1 = n → False := fun n hn q => by
    unfold pureOp at hp
    rw [q] at hp
    rcases hn with rfl | rfl | rfl | rfl | rfl | rfl | rfl | rfl <;> exact Bool.noConfusion (show false = true from hp)
  unfold step1 at e
  split at e
  · exact nx_eq e
  · unfold s_load at e; split at e <;> first | (cases e; done) | (split at e <;> first | (cases e; done) | exact nx_eq e)
  · unfold s_store at e; split at e <;> first | (cases e; done) | (split at e <;> first | (cases e; done) | exact nx_eq e)
  · unfold s_iinc at e; split at e <;> first | (cases e; done) | exact nx_eq e
  · unfold s_ibin at e; split at e <;> first | (cases e; done) | (split at e <;> first | (cases e; done) | exact nx_eq e)
  · unfold s_icmp at e; split at e <;> first | (cases e; done) | (split at e <;> first | (cases e; done) | exact nx_eq e | exact jp_eq e)
  · unfold s_if at e; split at e <;> first | (cases e; done) | (split at e <;> first | (cases e; done) | exact nx_eq e | exact jp_eq e)
  · exact jp_eq e
  · unfold s_get at e; split at e <;> first | (cases e; done) | skip
    split at e <;> first | (cases e; done) | skip
    split at e <;> first | (cases e; done) | skip
    split at e <;> first | (cases e; done) | exact nx_eq e
  · rename_i q
    exact (no 9 (by omega) q).elim
  · unfold s_ald at e; split at e <;> first | (cases e; done) | skip
    split at e <;> first | (cases e; done) | skip
    split at e <;> first | (cases e; done) | skip
    split at e <;> first | (cases e; done) | exact nx_eq e
  · rename_i q
    exact (no 11 (by omega) q).elim
  · exact absurd e (fun h9 => s_call_no h9)
  · exact absurd e (fun h9 => s_ret_no h9)
  · exact nx_eq e
  · unfold s_lbin at e; split at e <;> first | (cases e; done) | (split at e <;> first | (cases e; done) | exact nx_eq e)
  · unfold s_conv at e; split at e <;> first | (cases e; done) | (split at e <;> first | (cases e; done) | exact nx_eq e)
  · unfold s_lcmp at e; split at e <;> first | (cases e; done) | exact nx_eq e
  · unfold s_stk at e; split at e <;> first | (cases e; done) | (split at e <;> first | (cases e; done) | exact nx_eq e)
  · exact nx_eq e
  · unfold s_null at e; split at e <;> first | (cases e; done) | exact nx_eq e | exact jp_eq e
  · unfold s_acmp at e; split at e <;> first | (cases e; done) | skip
    split at e <;> first | (cases e; done) | skip
    split at e <;> first | (cases e; done) | (split at e <;> first | exact nx_eq e | exact jp_eq e)
  · unfold s_sw at e; split at e <;> first | (cases e; done) | skip
    split at e <;> first | (cases e; done) | skip
    split at e
    · exact jp_eq e
    · split at e <;> first | (cases e; done) | exact jp_eq e
  · unfold s_len at e; split at e <;> first | (cases e; done) | skip
    split at e <;> first | (cases e; done) | skip
    split at e <;> first | (cases e; done) | exact nx_eq e
  · rename_i q
    exact (no 24 (by omega) q).elim
  · rename_i q
    exact (no 25 (by omega) q).elim
  · rename_i q
    exact (no 26 (by omega) q).elim
  · exact nx_eq e
  · unfold s_cast at e; split at e <;> first | (cases e; done) | skip
    split at e <;> first | (cases e; done) | skip
    split at e <;> first | (cases e; done) | exact nx_eq e
  · rename_i q
    exact (no 29 (by omega) q).elim
  · unfold s_oinit at e; split at e <;> first | (cases e; done) | (split at e <;> first | (cases e; done) | exact nx_eq e)
  · rename_i q
    exact (no 31 (by omega) q).elim
  · unfold s_math at e; split at e <;> first | (cases e; done) | (split at e <;> first | (cases e; done) | exact nx_eq e)
  · unfold s_gcl at e; split at e <;> first | (cases e; done) | skip
    split at e <;> first | (cases e; done) | skip
    split at e <;> first | (cases e; done) | exact nx_eq e
  · exact nx_eq e
  · rename_i q
    exact (no 35 (by omega) q).elim
  · cases e
theorem call_to (hs : step1 σ ai L S h = some (.inr (.inl (M', As, R)))) : ai.1 = 12 ∧ ∃ k, (k, M') ∈ (spec ai.2.1).2.2 := by
  rcases step_call hs with h12 | h13
  case inr =>
    exfalso
    unfold step1 at hs
    rw [h13] at hs
    replace hs : s_ret ai.2.1 S = some (.inr (.inl (M', As, R))) := hs
    unfold s_ret at hs
    split at hs <;> first | (cases hs; done) | (split at hs <;> cases hs)
  obtain ⟨o, a, c⟩ := ai
  replace h12 : o = 12 := h12
  subst h12
  refine ⟨rfl, ?_⟩
  replace hs : s_call a S h = some (.inr (.inl (M', As, R))) := hs
  unfold s_call at hs
  dsimp only at hs
  generalize spec a = sp at hs ⊢
  split at hs
  · split at hs
    · split at hs
      · rename_i k M2 e
        split at hs
        · cases hs
          exact ⟨k, by rw [e]; exact List.mem_cons_self⟩
        · cases hs
      · cases hs
    · split at hs
      · split at hs
        · split at hs
          · rename_i k2 M2 e
            split at hs
            · cases hs
              exact ⟨k2, List.mem_of_find?_eq_some e⟩
            · cases hs
          · cases hs
        · cases hs
      · cases hs
    · cases hs
  · cases hs
theorem pure_in (hP : pureM PM = true) (hM : M ∈ PM) : ∀ x, x ∈ codeOf M → pureOp PM x.2 = true := fun x hx => List.all_eq_true.mp (List.all_eq_true.mp hP M hM) x hx
theorem pure_call (hp : pureOp PM ai = true) (hs : step1 σ ai L S h = some (.inr (.inl (M', As, R)))) : M' ∈ PM := by
  obtain ⟨e, k, hk⟩ := call_to hs
  unfold pureOp at hp
  rw [e, Nat.beq_refl, cond_true] at hp
  exact nmem_ok (List.all_eq_true.mp hp _ hk)
theorem run_pure (hP : pureM PM = true) : ∀ (f M : Nat) (cd : List (Nat × AI)) (L : LV) (S : List Value) (h : AH) (r : Option Value × AH), M ∈ PM → (∀ x, x ∈ cd → pureOp PM x.2 = true) → run σ f M cd L S h = some r → r.2 = h := by
  intro f
  induction f with
  | zero => intro M cd L S h r _ _ hs; cases hs
  | succ f ih =>
    intro M cd L S h r hM hcd hs
    cases cd with
    | nil => cases hs
    | cons x tl =>
      obtain ⟨pc, ai⟩ := x
      have hai := hcd (pc, ai) List.mem_cons_self
      have htl := fun x hx => hcd x (List.mem_cons_of_mem _ hx)
      rw [run] at hs
      split at hs
      · cases hs
      · rename_i lv' st' h' h1
        have e := step_pure hai h1
        rw [e] at hs
        exact ih _ _ _ _ _ _ hM htl hs
      · rename_i t lv' st' h' h1
        have e := step_pure hai h1
        rw [e] at hs
        refine ih _ _ _ _ _ _ hM (fun x hx => pure_in hP hM x ?_) hs
        rw [jump_jmp] at hx
        obtain ⟨a, ha⟩ := jmp_suffix t (codeOf M)
        rw [ha]
        exact List.mem_append_right _ hx
      · rename_i M2 As R h1
        have hM2 := pure_call hai h1
        split at hs
        · cases hs
        · rename_i v h' hv
          have e := ih _ _ _ _ _ _ hM2 (pure_in hP hM2) hv
          dsimp only at e
          rw [e] at hs
          exact ih _ _ _ _ _ _ hM htl hs
      · cases hs
        rfl
theorem rt_pure (hP : pureM PM = true) (hM : M ∈ PM) (hr : Rt σ M (codeOf M) L S h Q) : Rt σ M (codeOf M) L S h (fun v h' => h' = h ∧ Q v h') := by
  obtain ⟨f, v, h', e, q⟩ := hr
  have e2 := run_pure hP f M _ L S h _ hM (pure_in hP hM) e
  dsimp only at e2
  exact ⟨f, v, h', e, e2, q⟩
end
