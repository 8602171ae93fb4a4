/-! ===== a method's whole run; its contract ===== -/
theorem nx_mono {lv lv' : LV} {st st' : List Value} {h h0 h' : AH} {j : Option Nat} (e : nx lv st h = some (.inl (j, lv', st', h'))) (h1 : h0.2.1 ≤ h.2.1 ∧ h0.2.2 ≤ h.2.2) : h0.2.1 ≤ h'.2.1 ∧ h0.2.2 ≤ h'.2.2 := by
  obtain ⟨-, -, -, rfl⟩ := nx_inj e
  exact h1
theorem jp_mono {t : Int} {lv lv' : LV} {st st' : List Value} {h h0 h' : AH} {j : Option Nat} (e : jp t lv st h = some (.inl (j, lv', st', h'))) (h1 : h0.2.1 ≤ h.2.1 ∧ h0.2.2 ≤ h.2.2) : h0.2.1 ≤ h'.2.1 ∧ h0.2.2 ≤ h'.2.2 := by
  obtain ⟨-, -, -, rfl⟩ := jp_inj e
  exact h1
theorem step_mono {σ : Nat → Nat} {ai : AI} {lv lv' : LV} {st st' : List Value} {h h' : AH} {j : Option Nat} (e : step1 σ ai lv st h = some (.inl (j, lv', st', h'))) : h.2.1 ≤ h'.2.1 ∧ h.2.2 ≤ h'.2.2 := by
  have r : h.2.1 ≤ h.2.1 ∧ h.2.2 ≤ h.2.2 := ⟨Nat.le_refl _, Nat.le_refl _⟩
  have pu : ∀ o n, h.2.1 ≤ (am_push h o n).2.1 ∧ h.2.2 ≤ (am_push h o n).2.2 := fun o n => ⟨Nat.le_succ _, Nat.le_add_right _ _⟩
  unfold step1 at e
  split at e
  · exact nx_mono e r
  · unfold s_load at e; split at e <;> first | (cases e; done) | (split at e <;> first | (cases e; done) | exact nx_mono e r)
  · unfold s_store at e; split at e <;> first | (cases e; done) | (split at e <;> first | (cases e; done) | exact nx_mono e r)
  · unfold s_iinc at e; split at e <;> first | (cases e; done) | exact nx_mono e r
  · unfold s_ibin at e; split at e <;> first | (cases e; done) | (split at e <;> first | (cases e; done) | exact nx_mono e r)
  · unfold s_icmp at e; split at e <;> first | (cases e; done) | (split at e <;> first | (cases e; done) | exact nx_mono e r | exact jp_mono e r)
  · unfold s_if at e; split at e <;> first | (cases e; done) | (split at e <;> first | (cases e; done) | exact nx_mono e r | exact jp_mono e r)
  · exact jp_mono e r
  · unfold s_get at e; split at e <;> first | (cases e; done) | skip
    split at e <;> first | (cases e; done) | skip
    split at e <;> first | (cases e; done) | skip
    split at e <;> first | (cases e; done) | exact nx_mono e r
  · unfold s_put at e; split at e <;> first | (cases e; done) | skip
    split at e <;> first | (cases e; done) | skip
    split at e <;> first | (cases e; done) | exact nx_mono e r
  · unfold s_ald at e; split at e <;> first | (cases e; done) | skip
    split at e <;> first | (cases e; done) | skip
    split at e <;> first | (cases e; done) | skip
    split at e <;> first | (cases e; done) | exact nx_mono e r
  · unfold s_ast at e; split at e <;> first | (cases e; done) | skip
    split at e <;> first | (cases e; done) | skip
    split at e <;> first | (cases e; done) | exact nx_mono e r
  · exact absurd e (fun h9 => s_call_no h9)
  · exact absurd e (fun h9 => s_ret_no h9)
  · exact nx_mono e r
  · unfold s_lbin at e; split at e <;> first | (cases e; done) | (split at e <;> first | (cases e; done) | exact nx_mono e r)
  · unfold s_conv at e; split at e <;> first | (cases e; done) | (split at e <;> first | (cases e; done) | exact nx_mono e r)
  · unfold s_lcmp at e; split at e <;> first | (cases e; done) | exact nx_mono e r
  · unfold s_stk at e; split at e <;> first | (cases e; done) | (split at e <;> first | (cases e; done) | exact nx_mono e r)
  · exact nx_mono e r
  · unfold s_null at e; split at e <;> first | (cases e; done) | exact nx_mono e r | exact jp_mono e r
  · unfold s_acmp at e; split at e <;> first | (cases e; done) | skip
    split at e <;> first | (cases e; done) | skip
    split at e <;> first | (cases e; done) | (split at e <;> first | exact nx_mono e r | exact jp_mono e r)
  · unfold s_sw at e; split at e <;> first | (cases e; done) | skip
    split at e <;> first | (cases e; done) | skip
    split at e
    · exact jp_mono e r
    · split at e <;> first | (cases e; done) | exact jp_mono e r
  · unfold s_len at e; split at e <;> first | (cases e; done) | skip
    split at e <;> first | (cases e; done) | skip
    split at e <;> first | (cases e; done) | exact nx_mono e r
  · unfold s_newa at e; split at e <;> first | (cases e; done) | skip
    unfold s_new at e; split at e <;> first | (cases e; done) | exact nx_mono e (pu _ _)
  · unfold s_newa at e; split at e <;> first | (cases e; done) | skip
    unfold s_new at e; split at e <;> first | (cases e; done) | exact nx_mono e (pu _ _)
  · exact nx_mono e (pu _ _)
  · exact nx_mono e r
  · unfold s_cast at e; split at e <;> first | (cases e; done) | skip
    split at e <;> first | (cases e; done) | skip
    split at e <;> first | (cases e; done) | exact nx_mono e r
  · unfold s_acp at e; split at e <;> first | (cases e; done) | skip
    split at e <;> first | (cases e; done) | skip
    split at e <;> first | (cases e; done) | exact nx_mono e r
  · unfold s_oinit at e; split at e <;> first | (cases e; done) | (split at e <;> first | (cases e; done) | exact nx_mono e r)
  · unfold s_clone at e; split at e <;> first | (cases e; done) | skip
    split at e <;> first | (cases e; done) | skip
    split at e <;> first | (cases e; done) | exact nx_mono e (pu _ _)
  · unfold s_math at e; split at e <;> first | (cases e; done) | (split at e <;> first | (cases e; done) | exact nx_mono e r)
  · unfold s_gcl at e; split at e <;> first | (cases e; done) | skip
    split at e <;> first | (cases e; done) | skip
    split at e <;> first | (cases e; done) | exact nx_mono e r
  · exact nx_mono e r
  · unfold s_acr at e; split at e <;> first | (cases e; done) | skip
    split at e <;> first | (cases e; done) | skip
    split at e <;> first | (cases e; done) | exact nx_mono e r
  · cases e
theorem nx_no {lv : LV} {st : List Value} {h : AH} {z : (Nat × List Value × List Value) ⊕ Option Value} (e : nx lv st h = some (.inr z)) : False := by
  unfold nx at e; cases e
theorem jp_no {t : Int} {lv : LV} {st : List Value} {h : AH} {z : (Nat × List Value × List Value) ⊕ Option Value} (e : jp t lv st h = some (.inr z)) : False := by
  unfold jp at e; cases e
theorem step_call {σ : Nat → Nat} {ai : AI} {lv : LV} {st : List Value} {h : AH} {z : (Nat × List Value × List Value) ⊕ Option Value} (e : step1 σ ai lv st h = some (.inr z)) : ai.1 = 12 ∨ ai.1 = 13 := by
  have r := True.intro
  have pu := fun (_ _ : Nat) => True.intro
  unfold step1 at e
  split at e
  · exact absurd e nx_no
  · unfold s_load at e; split at e <;> first | (cases e; done) | (split at e <;> first | (cases e; done) | exact absurd e nx_no)
  · unfold s_store at e; split at e <;> first | (cases e; done) | (split at e <;> first | (cases e; done) | exact absurd e nx_no)
  · unfold s_iinc at e; split at e <;> first | (cases e; done) | exact absurd e nx_no
  · unfold s_ibin at e; split at e <;> first | (cases e; done) | (split at e <;> first | (cases e; done) | exact absurd e nx_no)
  · unfold s_icmp at e; split at e <;> first | (cases e; done) | (split at e <;> first | (cases e; done) | exact absurd e nx_no | exact absurd e jp_no)
  · unfold s_if at e; split at e <;> first | (cases e; done) | (split at e <;> first | (cases e; done) | exact absurd e nx_no | exact absurd e jp_no)
  · exact absurd e jp_no
  · unfold s_get at e; split at e <;> first | (cases e; done) | skip
    split at e <;> first | (cases e; done) | skip
    split at e <;> first | (cases e; done) | skip
    split at e <;> first | (cases e; done) | exact absurd e nx_no
  · unfold s_put at e; split at e <;> first | (cases e; done) | skip
    split at e <;> first | (cases e; done) | skip
    split at e <;> first | (cases e; done) | exact absurd e nx_no
  · unfold s_ald at e; split at e <;> first | (cases e; done) | skip
    split at e <;> first | (cases e; done) | skip
    split at e <;> first | (cases e; done) | skip
    split at e <;> first | (cases e; done) | exact absurd e nx_no
  · unfold s_ast at e; split at e <;> first | (cases e; done) | skip
    split at e <;> first | (cases e; done) | skip
    split at e <;> first | (cases e; done) | exact absurd e nx_no
  · exact Or.inl (by assumption)
  · exact Or.inr (by assumption)
  · exact absurd e nx_no
  · unfold s_lbin at e; split at e <;> first | (cases e; done) | (split at e <;> first | (cases e; done) | exact absurd e nx_no)
  · unfold s_conv at e; split at e <;> first | (cases e; done) | (split at e <;> first | (cases e; done) | exact absurd e nx_no)
  · unfold s_lcmp at e; split at e <;> first | (cases e; done) | exact absurd e nx_no
  · unfold s_stk at e; split at e <;> first | (cases e; done) | (split at e <;> first | (cases e; done) | exact absurd e nx_no)
  · exact absurd e nx_no
  · unfold s_null at e; split at e <;> first | (cases e; done) | exact absurd e nx_no | exact absurd e jp_no
  · unfold s_acmp at e; split at e <;> first | (cases e; done) | skip
    split at e <;> first | (cases e; done) | skip
    split at e <;> first | (cases e; done) | (split at e <;> first | exact absurd e nx_no | exact absurd e jp_no)
  · unfold s_sw at e; split at e <;> first | (cases e; done) | skip
    split at e <;> first | (cases e; done) | skip
    split at e
    · exact absurd e jp_no
    · split at e <;> first | (cases e; done) | exact absurd e jp_no
  · unfold s_len at e; split at e <;> first | (cases e; done) | skip
    split at e <;> first | (cases e; done) | skip
    split at e <;> first | (cases e; done) | exact absurd e nx_no
  · unfold s_newa at e; split at e <;> first | (cases e; done) | skip
    unfold s_new at e; split at e <;> first | (cases e; done) | exact absurd e nx_no
  · unfold s_newa at e; split at e <;> first | (cases e; done) | skip
    unfold s_new at e; split at e <;> first | (cases e; done) | exact absurd e nx_no
  · exact absurd e nx_no
  · exact absurd e nx_no
  · unfold s_cast at e; split at e <;> first | (cases e; done) | skip
    split at e <;> first | (cases e; done) | skip
    split at e <;> first | (cases e; done) | exact absurd e nx_no
  · unfold s_acp at e; split at e <;> first | (cases e; done) | skip
    split at e <;> first | (cases e; done) | skip
    split at e <;> first | (cases e; done) | exact absurd e nx_no
  · unfold s_oinit at e; split at e <;> first | (cases e; done) | (split at e <;> first | (cases e; done) | exact absurd e nx_no)
  · unfold s_clone at e; split at e <;> first | (cases e; done) | skip
    split at e <;> first | (cases e; done) | skip
    split at e <;> first | (cases e; done) | exact absurd e nx_no
  · unfold s_math at e; split at e <;> first | (cases e; done) | (split at e <;> first | (cases e; done) | exact absurd e nx_no)
  · unfold s_gcl at e; split at e <;> first | (cases e; done) | skip
    split at e <;> first | (cases e; done) | skip
    split at e <;> first | (cases e; done) | exact absurd e nx_no
  · exact absurd e nx_no
  · unfold s_acr at e; split at e <;> first | (cases e; done) | skip
    split at e <;> first | (cases e; done) | skip
    split at e <;> first | (cases e; done) | exact absurd e nx_no
  · cases e
theorem run_mono {σ : Nat → Nat} : ∀ {f M : Nat} {cd : List (Nat × AI)} {lv : LV} {st : List Value} {h : AH} {r : Option Value} {h' : AH}, run σ f M cd lv st h = some (r, h') → h.2.1 ≤ h'.2.1 ∧ h.2.2 ≤ h'.2.2 := by
  intro f
  induction f with
  | zero => intro M cd lv st h r h' e; cases e
  | succ f ih =>
    intro M cd lv st h r h' e
    unfold run at e
    split at e
    · cases e
    · rename_i pc ai tl
      split at e
      · cases e
      · rename_i lv1 st1 h1 e1
        have a := step_mono e1
        have b := ih e
        exact ⟨Nat.le_trans a.1 b.1, Nat.le_trans a.2 b.2⟩
      · rename_i t lv1 st1 h1 e1
        have a := step_mono e1
        have b := ih e
        exact ⟨Nat.le_trans a.1 b.1, Nat.le_trans a.2 b.2⟩
      · rename_i M1 as1 r1 e1
        split at e
        · cases e
        · rename_i v h1 e2
          have a := ih e2
          have b := ih e
          exact ⟨Nat.le_trans a.1 b.1, Nat.le_trans a.2 b.2⟩
      · cases e
        exact ⟨Nat.le_refl _, Nat.le_refl _⟩
section MET
variable {p : Program} {l : Launch} {e : Env} {R : Room} {s : State} {m : MethodId} {args : Array Value} {below : List Frame} {meth : Method} {c : Code} {H : Heap} {locs : List Loc} {Q : State → Prop} {base c0 s0 M pc nxp : Nat} {D : va_G} {σ : Nat → Nat} {ls : Array Slot} {lv lv' : LV} {st st' : List Value} {h h' : AH} {j : Option Nat} {ai : AI}
/-- the end of a method, by its instruction -/
def EndOf (p : Program) (l : Launch) (e : Env) (R : Room) (s : State) (m : MethodId) (args : Array Value) (below : List Frame) (meth : Method) (c : Code) (Q : State → Prop) (base : Nat) (D : va_G) (σ : Nat → Nat) (M c0 s0 : Nat) (r : Option Value) (h' : AH) : Prop :=
  ∀ (pc nxp : Nat) (ai : AI) (lv : LV) (st : List Value), Lk M pc nxp ai → step1 σ ai lv st h' = some (.inr (.inr r)) → KK p l e R s m args below meth c Q base D M c0 s0 pc lv st h'
theorem sim_run (C : Ctx p s m args meth c base D σ M) (f : Nat) (IH : ∀ f', f' < f → MetA l base D σ f') (hR : mF M ≤ R.frames ∧ mW M ≤ R.locals) (r : Option Value) (h' : AH) (hrm : h'.2.1 - c0 ≤ R.cells ∧ h'.2.2 - s0 ≤ R.slots) (hE : EndOf p l e R s m args below meth c Q base D σ M c0 s0 r h') :
    ∀ (n : Nat), n ≤ f → ∀ (pc : Nat) (cd : List (Nat × AI)) (lv : LV) (st : List Value) (h : AH), (∀ x ∈ cd, x ∈ codeOf M) → GoodC M cd → cd.head?.map Prod.fst = some pc → c0 ≤ h.2.1 ∧ s0 ≤ h.2.2 → run σ n M cd lv st h = some (r, h') → KK p l e R s m args below meth c Q base D M c0 s0 pc lv st h := by
  intro n
  induction n with
  | zero => intro _ pc cd lv st h _ _ _ _ e; cases e
  | succ n ih =>
    intro hn pc cd lv st h hcd hG hpc hc er
    have hM : M < nM := C.2.2.2.2.2.2.2.2.2.1
    cases cd with
    | nil => cases er
    | cons x tl =>
      obtain ⟨pc', ai⟩ := x
      have e0 : pc' = pc := by simpa using hpc
      subst e0
      obtain ⟨hL, hG'⟩ := goodC_step hG
      have hmem := hcd _ List.mem_cons_self
      have hrow := List.all_eq_true.mp (List.all_eq_true.mp ck_rm M (List.mem_range.mpr hM)) _ hmem
      have hcd' : ∀ x ∈ tl, x ∈ codeOf M := fun x hx => hcd x (List.mem_cons_of_mem _ hx)
      have hF : ai.1 ≠ 99 → 29 ≤ ai.1 → 1 ≤ R.frames ∧ 30 ≤ R.locals := by
        intro h99 h29
        dsimp only at hrow
        rw [if_neg (by omega), if_pos h29] at hrow
        simp only [Bool.or_eq_true, Bool.and_eq_true, decide_eq_true_eq] at hrow
        rcases hrow with h9 | h9
        · exact absurd h9 h99
        · exact ⟨Nat.le_trans h9.1 hR.1, Nat.le_trans h9.2 hR.2⟩
      unfold run at er
      dsimp only at er
      split at er
      · cases er
      · rename_i lv1 st1 h1 e1
        have hm1 := step_mono e1
        have hm2 := run_mono er
        have h99 : ai.1 ≠ 99 := by intro h9; unfold step1 at e1; rw [h9] at e1; cases e1
        refine si_all C hL e1 (hF h99) ⟨by omega, by omega⟩ hc ?_
        cases tl with
        | nil => cases n <;> cases er
        | cons y tl' => exact ih (by omega) _ _ _ _ _ hcd' hG' rfl ⟨Nat.le_trans hc.1 hm1.1, Nat.le_trans hc.2 hm1.2⟩ er
      · rename_i t lv1 st1 h1 e1
        have hm1 := step_mono e1
        have hm2 := run_mono er
        have h99 : ai.1 ≠ 99 := by intro h9; unfold step1 at e1; rw [h9] at e1; cases e1
        refine si_all C hL e1 (hF h99) ⟨by omega, by omega⟩ hc ?_
        have hj := goodC_jump (t := t) hM
        have hjm : ∀ x ∈ jump M t, x ∈ codeOf M := fun x hx => (List.dropWhile_suffix _).subset hx
        cases hcj : jump M t with
        | nil => rw [hcj] at er; cases n <;> cases er
        | cons y tl' =>
          rw [hcj] at er hj hjm
          have hy := hj.2 y tl' rfl
          exact ih (by omega) t _ _ _ _ hjm hj.1 (by simp [hy]) ⟨Nat.le_trans hc.1 hm1.1, Nat.le_trans hc.2 hm1.2⟩ er
      · rename_i M1 as1 r1 e1
        split at er
        · cases er
        · rename_i v h1 e2
          have hm1 := run_mono e2
          have hm2 := run_mono er
          have hop : ai.1 = 12 := by
            rcases step_call e1 with h9 | h9
            · exact h9
            · unfold step1 at e1
              rw [h9] at e1
              change s_ret _ _ = _ at e1
              unfold s_ret at e1
              split at e1 <;> first | (cases e1; done) | (split at e1 <;> cases e1)
          obtain ⟨o9, a9, c9⟩ := ai
          dsimp only at hop
          subst hop
          dsimp only at hrow
          rw [if_pos rfl] at hrow
          refine si_call C hL e1 (fun t ht => ?_) hc ⟨by omega, by omega⟩ (fun q1 q2 q3 => IH n (by omega) M1 as1 h v h1 q1 q2 q3 e2) ?_
          · have h9 := List.all_eq_true.mp hrow t ht
            simp only [Bool.and_eq_true, decide_eq_true_eq] at h9
            exact ⟨Nat.le_trans h9.1 hR.1, Nat.le_trans h9.2 hR.2⟩
          · cases tl with
            | nil => cases n <;> cases er
            | cons y tl' => exact ih (by omega) _ _ _ _ _ hcd' hG' rfl ⟨Nat.le_trans hc.1 hm1.1, Nat.le_trans hc.2 hm1.2⟩ er
      · rename_i v e1
        cases er
        exact hE _ _ _ _ _ hL e1
end MET
