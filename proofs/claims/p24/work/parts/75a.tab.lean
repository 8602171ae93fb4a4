/-! ===== the start's objects keep the classes' tables: single places ===== -/
noncomputable def tb_at (c i : Nat) (T : List (Nat × Nat × Nat)) : Option Nat := match T with
  | [] => none
  | q :: r => bif Nat.beq q.1 c && Nat.beq q.2.1 i then some q.2.2 else tb_at c i r
noncomputable def tb_has (c i : Nat) (T : List (Nat × Nat × Nat)) : Bool := match tb_at c i T with
  | some _ => true
  | none => false
noncomputable def rfS (T : List (Nat × Nat × Nat)) (c i : Nat) (s : SV) : Bool := Nat.beq s.1 5 && (match tb_at c i T with
  | some k => Nat.beq k s.2.1 && !(Nat.beq k 6)
  | none => false)
noncomputable def fitS (T : List (Nat × Nat × Nat)) (ty : TY) (i p : Nat) (s : SV) : Bool :=
  bif Nat.beq ty.1 0 then Nat.beq s.1 0 && (Nat.ble ty.2.1 s.2.1 && Nat.ble s.2.2 ty.2.2)
  else bif Nat.beq ty.1 1 then isL s
  else bif Nat.beq ty.1 2 then Nat.beq s.1 4 || T.any (fun q => rfS T ty.2.1 q.2.1 s)
  else bif Nat.beq ty.1 3 then T.any (fun q => rfS T ty.2.1 q.2.1 s)
  else bif Nat.beq ty.1 4 then rfS T ty.2.1 i s
  else bif Nat.beq ty.1 5 then (Nat.beq s.1 4 && !(tb_has ty.2.1 i T)) || rfS T ty.2.1 i s
  else bif Nat.beq ty.1 6 then rfS T ty.2.1 p s
  else bif Nat.beq ty.1 7 then rfS T ty.2.1 0 s
  else Nat.beq ty.1 9
noncomputable def fitP (T : List (Nat × Nat × Nat)) (c i p : Nat) (s : SV) : Bool := match ct_at c p with
  | some ty => fitS T ty i p s
  | none => false
noncomputable def fitL (T : List (Nat × Nat × Nat)) (c i : Nat) : Nat → List SV → Bool
  | _, [] => true
  | p, s :: r => bif fitP T c i p s then fitL T c i (p + 1) r else false
noncomputable def lenS (c n : Nat) : Bool := bif Nat.beq (cdm c) 0 then Nat.beq n (cd c).2.2.length else bif Nat.ble (cdm c) 999999 then Nat.beq (n + 1) (cdm c) else Nat.ble n 3584
noncomputable def obS (T : List (Nat × Nat × Nat)) (c i : Nat) (o : qe_SO) : Bool := (Nat.beq o.1 (cdk c) && !(Nat.beq o.1 31)) && (match o.2 with
  | .inl q => lenS c q.1 && (List.range q.1).all (fun p => fitP T c i p q.2)
  | .inr l => lenS c l.length && fitL T c i 0 l)
noncomputable def obV (o : qe_SO) (p : Nat) : Option SV := match o.2 with
  | .inl q => bif Nat.ble (p + 1) q.1 then some q.2 else none
  | .inr l => l[p]?
noncomputable def obN (o : qe_SO) : Nat := match o.2 with
  | .inl q => q.1
  | .inr l => l.length
noncomputable def adS (A : Nat → Nat) (T : List (Nat × Nat × Nat)) : AD := fun c i => (tb_at c i T).map A
theorem tb_mem {c i k : Nat} : ∀ {T : List (Nat × Nat × Nat)}, tb_at c i T = some k → (c, i, k) ∈ T := by
  intro T
  induction T with
  | nil => intro h; cases h
  | cons q r ih =>
    intro h
    rw [tb_at] at h
    cases hb : Nat.beq q.1 c && Nat.beq q.2.1 i
    · rw [hb, cond_false] at h
      exact List.mem_cons_of_mem _ (ih h)
    · rw [hb, cond_true] at h
      obtain ⟨h1, h2⟩ := and2 hb
      have e : q = (c, i, k) := Prod.ext (beqt h1) (Prod.ext (beqt h2) (Option.some.inj h))
      rw [e]
      exact List.mem_cons_self
theorem tb_has_ok {c i : Nat} {T : List (Nat × Nat × Nat)} (h : tb_has c i T = true) : ∃ k, tb_at c i T = some k := by
  unfold tb_has at h
  split at h
  · rename_i k hk
    exact ⟨k, hk⟩
  · cases h
section
variable {A A' nu : Nat → Nat} {n m c i p k : Nat} {T : List (Nat × Nat × Nat)} {s : SV} {v : Value} {ty : TY} {o : qe_SO} {vs : List Value}
theorem ads_some {q : Nat} (h : adS A T c i = some q) : ∃ k, tb_at c i T = some k ∧ q = A k := by
  obtain ⟨k, h1, h2⟩ := Option.map_eq_some_iff.mp h
  exact ⟨k, h1, h2.symm⟩
theorem ads_of (h : tb_at c i T = some k) : adS A T c i = some (A k) := by
  unfold adS
  rw [h]
  rfl
theorem ads_has : (adS A T c i ≠ none) ↔ tb_has c i T = true := by
  unfold adS tb_has
  cases tb_at c i T with
  | none => exact ⟨fun h => absurd rfl h, fun h => (by cases h)⟩
  | some k => exact ⟨fun _ => rfl, fun _ h => (by cases h)⟩
theorem qi_eq (x : Int32) : qe_i2n x = i2n x := rfl
theorem qs_raw (h : qe_SVm A nu n m s v) (h5 : s.1 = 5) : v = .ref (A s.2.1) := by
  cases v with
  | int x => rcases h with ⟨h, -⟩ | ⟨h, -⟩ <;> omega
  | long x => rcases h with ⟨h, -⟩ | h <;> omega
  | null => change s.1 = 4 at h; omega
  | ref q => rw [h.2.2]
  | _ => exact h.elim
theorem qs_null (h : qe_SVm A nu n m s v) (h5 : s.1 = 4) : v = .null := by
  cases v with
  | int x => rcases h with ⟨h, -⟩ | ⟨h, -⟩ <;> omega
  | long x => rcases h with ⟨h, -⟩ | h <;> omega
  | null => rfl
  | ref q => have := h.1; omega
  | _ => exact h.elim
theorem qs_int (h : qe_SVm A nu n m s v) (h5 : s.1 = 0) : ∃ x, v = .int x ∧ (s.2.1 ≤ i2n x ∧ i2n x ≤ s.2.2) := by
  cases v with
  | int x =>
    rcases h with ⟨-, h⟩ | ⟨h, -⟩
    · exact ⟨x, rfl, h⟩
    · omega
  | long x => rcases h with ⟨h, -⟩ | h <;> omega
  | null => change s.1 = 4 at h; omega
  | ref q => have := h.1; omega
  | _ => exact h.elim
theorem qs_long (h : qe_SVm A nu n m s v) (h5 : isL s = true) : ∃ x, v = .long x := by
  have h6 := tag_L h5
  cases v with
  | int x => rcases h with ⟨h, -⟩ | ⟨h, -⟩ <;> omega
  | long x => exact ⟨x, rfl⟩
  | null => change s.1 = 4 at h; omega
  | ref q => have := h.1; omega
  | _ => exact h.elim
theorem rfs_ok (hA : ∀ k, k ≠ 6 → A k = A' k) (h : qe_SVm A nu n m s v) (hs : rfS T c i s = true) : v ≠ .null ∧ RefV (adS A' T) c (2147483648 + i) v := by
  unfold rfS at hs
  obtain ⟨h1, h2⟩ := and2 hs
  split at h2
  · rename_i k hk
    obtain ⟨h3, h4⟩ := and2 h2
    have e := qs_raw h (beqt h1)
    have h5 := beqt h3
    have h6 : k ≠ 6 := fun e6 => by rw [e6] at h4; exact Bool.noConfusion h4
    rw [e]
    refine ⟨(fun e => by cases e), Or.inr ⟨Nat.le_add_right _ _, A' k, ?_, ?_⟩⟩
    · rw [Nat.add_sub_cancel_left]
      exact ads_of hk
    · rw [← h5, hA k h6]
  · cases h2
theorem fits_any (hA : ∀ k, k ≠ 6 → A k = A' k) (h : qe_SVm A nu n m s v) (hs : T.any (fun q => rfS T c q.2.1 s) = true) : ∃ e, 2147483648 ≤ e ∧ RefV (adS A' T) c e v := by
  obtain ⟨q, -, hq⟩ := List.any_eq_true.mp hs
  exact ⟨_, Nat.le_add_right _ _, (rfs_ok hA h hq).2⟩
theorem fits_ok (hA : ∀ k, k ≠ 6 → A k = A' k) (h : qe_SVm A nu n m s v) (hs : fitS T ty i p s = true) : TV (adS A' T) ty i p v ∧ (ty.1 = 5 → v = .null → adS A' T ty.2.1 i = none) := by
  unfold fitS at hs
  unfold TV
  cases e0 : Nat.beq ty.1 0
  · rw [e0, cond_false] at hs
    cases e1 : Nat.beq ty.1 1
    · rw [e1, cond_false] at hs
      cases e2 : Nat.beq ty.1 2
      · rw [e2, cond_false] at hs
        cases e3 : Nat.beq ty.1 3
        · rw [e3, cond_false] at hs
          cases e4 : Nat.beq ty.1 4
          · rw [e4, cond_false] at hs
            cases e5 : Nat.beq ty.1 5
            · rw [e5, cond_false] at hs
              have n5 := beqf e5
              cases e6 : Nat.beq ty.1 6
              · rw [e6, cond_false] at hs
                cases e7 : Nat.beq ty.1 7
                · rw [e7, cond_false] at hs
                  exact ⟨Or.inr (Or.inr (Or.inr (Or.inr (Or.inr (Or.inr (Or.inr (Or.inr (beqt hs)))))))), fun e => absurd e n5⟩
                · rw [e7, cond_true] at hs
                  exact ⟨Or.inr (Or.inr (Or.inr (Or.inr (Or.inr (Or.inr (Or.inr (Or.inl ⟨beqt e7, (rfs_ok hA h hs).2⟩))))))), fun e => absurd e n5⟩
              · rw [e6, cond_true] at hs
                exact ⟨Or.inr (Or.inr (Or.inr (Or.inr (Or.inr (Or.inr (Or.inl ⟨beqt e6, (rfs_ok hA h hs).2⟩)))))), fun e => absurd e n5⟩
            · rw [e5, cond_true] at hs
              rcases or2 hs with hs | hs
              · obtain ⟨h1, h2⟩ := and2 hs
                refine ⟨Or.inr (Or.inr (Or.inr (Or.inr (Or.inr (Or.inl ⟨beqt e5, Or.inl (qs_null h (beqt h1))⟩))))), fun _ _ => ?_⟩
                cases hq : adS A' T ty.2.1 i with
                | none => rfl
                | some q =>
                  have := ads_has.mp (show adS A' T ty.2.1 i ≠ none by rw [hq]; exact fun e => by cases e)
                  rw [this] at h2
                  exact Bool.noConfusion h2
              · obtain ⟨r1, r2⟩ := rfs_ok hA h hs
                exact ⟨Or.inr (Or.inr (Or.inr (Or.inr (Or.inr (Or.inl ⟨beqt e5, Or.inr r2⟩))))), fun _ e => absurd e r1⟩
          · rw [e4, cond_true] at hs
            have := beqt e4
            exact ⟨Or.inr (Or.inr (Or.inr (Or.inr (Or.inl ⟨this, (rfs_ok hA h hs).2⟩)))), fun e => by omega⟩
        · rw [e3, cond_true] at hs
          have := beqt e3
          exact ⟨Or.inr (Or.inr (Or.inr (Or.inl ⟨this, fits_any hA h hs⟩))), fun e => by omega⟩
      · rw [e2, cond_true] at hs
        have := beqt e2
        refine ⟨Or.inr (Or.inr (Or.inl ⟨this, ?_⟩)), fun e => by omega⟩
        rcases or2 hs with hs | hs
        · exact ⟨2147483647, Or.inl ⟨rfl, qs_null h (beqt hs)⟩⟩
        · obtain ⟨e, -, he⟩ := fits_any hA h hs
          exact ⟨e, he⟩
    · rw [e1, cond_true] at hs
      have := beqt e1
      exact ⟨Or.inr (Or.inl ⟨this, qs_long h hs⟩), fun e => by omega⟩
  · rw [e0, cond_true] at hs
    have e := beqt e0
    obtain ⟨h1, h2⟩ := and2 hs
    obtain ⟨h2, h3⟩ := and2 h2
    obtain ⟨x, x1, x2, x3⟩ := qs_int h (beqt h1)
    exact ⟨Or.inl ⟨e, x, x1, Nat.le_trans (blet h2) x2, Nat.le_trans x3 (blet h3)⟩, fun e5 => by omega⟩
/-! objects -/
theorem ob_val (h : qe_CM A nu n m o.2 vs) (hv : vs[p]? = some v) : ∃ s, obV o p = some s ∧ qe_SVm A nu n m s v := by
  obtain ⟨kd, o⟩ := o
  unfold obV
  cases o with
  | inl q =>
    dsimp only
    have h1 := (List.getElem?_eq_some_iff.mp hv).1
    have h2 : vs.length = q.1 := h.1
    rw [Nat.ble_eq_true_of_le (show p + 1 ≤ q.1 by omega)]
    exact ⟨q.2, rfl, h.2 v (List.mem_of_getElem? hv)⟩
  | inr l =>
    have hl : qe_LM A nu n m l vs := h
    have h1 := (List.getElem?_eq_some_iff.mp hv).1
    have h2 := qe_lm_len hl
    obtain ⟨s, hs⟩ : ∃ s, l[p]? = some s := ⟨l[p]'(by omega), List.getElem?_eq_getElem (by omega)⟩
    obtain ⟨w, w1, w2⟩ := qe_lm_get hl hs
    rw [hv] at w1
    cases w1
    exact ⟨s, hs, w2⟩
theorem ob_val' (h : qe_CM A nu n m o.2 vs) (hs : obV o p = some s) : ∃ v, vs[p]? = some v ∧ qe_SVm A nu n m s v := by
  obtain ⟨kd, o⟩ := o
  unfold obV at hs
  cases o with
  | inl q =>
    dsimp only at hs
    obtain ⟨b1, b2⟩ := bif_some hs
    have h2 : vs.length = q.1 := h.1
    have h3 := blet b1
    cases b2
    have h4 : p < vs.length := by omega
    exact ⟨vs[p], List.getElem?_eq_getElem h4, h.2 _ (List.getElem_mem h4)⟩
  | inr l =>
    have hl : qe_LM A nu n m l vs := h
    exact qe_lm_get hl hs
theorem ob_len (h : qe_CM A nu n m o.2 vs) : vs.length = obN o := by
  obtain ⟨kd, o⟩ := o
  cases o with
  | inl q => exact h.1
  | inr l =>
    have hl : qe_LM A nu n m l vs := h
    exact qe_lm_len hl
theorem fitl_get : ∀ {l : List SV} {j : Nat}, fitL T c i j l = true → ∀ p s, l[p]? = some s → fitP T c i (j + p) s = true := by
  intro l
  induction l with
  | nil => intro j _ p s hs; cases hs
  | cons x r ih =>
    intro j hf p s hs
    rw [fitL] at hf
    obtain ⟨h1, h2⟩ := bifb hf
    cases p with
    | zero => cases hs; exact h1
    | succ p =>
      have := ih h2 p s hs
      rw [show j + (p + 1) = j + 1 + p by omega]
      exact this
theorem lens_ok (h : lenS c k = true) : LenOK c k := by
  unfold lenS at h
  cases h0 : Nat.beq (cdm c) 0
  · rw [h0, cond_false] at h
    have := beqf h0
    cases h1 : Nat.ble (cdm c) 999999
    · rw [h1, cond_false] at h
      have h2 : ¬ cdm c ≤ 999999 := fun e => by rw [Nat.ble_eq_true_of_le e] at h1; cases h1
      exact ⟨fun e => absurd e this, fun _ e => absurd e h2, fun _ => blet h⟩
    · rw [h1, cond_true] at h
      have := blet h1
      exact ⟨fun e => by omega, fun _ _ => beqt h, fun e => by omega⟩
  · rw [h0, cond_true] at h
    have := beqt h0
    exact ⟨fun _ => beqt h, fun e => by omega, fun e => by omega⟩
theorem obs_ok (hs : obS T c i o = true) : (o.1 = cdk c ∧ o.1 ≠ 31) ∧ (LenOK c (obN o) ∧ ∀ p s, obV o p = some s → ∃ ty, ct_at c p = some ty ∧ fitS T ty i p s = true) := by
  obtain ⟨kd, o⟩ := o
  unfold obS at hs
  obtain ⟨h1, h2⟩ := and2 hs
  obtain ⟨h3, h4⟩ := and2 h1
  have h31 : kd ≠ 31 := fun e => by
    replace h4 : (!(Nat.beq kd 31)) = true := h4
    rw [e] at h4
    exact Bool.noConfusion h4
  have fp : ∀ {p s}, fitP T c i p s = true → ∃ ty, ct_at c p = some ty ∧ fitS T ty i p s = true := by
    intro p s hf
    unfold fitP at hf
    split at hf
    · rename_i ty hty
      exact ⟨ty, hty, hf⟩
    · cases hf
  refine ⟨⟨beqt h3, h31⟩, ?_⟩
  cases o with
  | inl q =>
    obtain ⟨h5, h6⟩ := and2 h2
    refine ⟨lens_ok h5, fun p s hp => ?_⟩
    unfold obV at hp
    dsimp only at hp
    obtain ⟨b1, b2⟩ := bif_some hp
    cases b2
    have := blet b1
    exact fp (List.all_eq_true.mp h6 p (List.mem_range.mpr (by omega)))
  | inr l =>
    obtain ⟨h5, h6⟩ := and2 h2
    refine ⟨lens_ok h5, fun p s hp => ?_⟩
    have := fitl_get h6 p s hp
    rw [Nat.zero_add] at this
    exact fp this
end
