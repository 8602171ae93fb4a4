/-! ===== waysToChoose on every heap; the law's runs ===== -/
theorem qe_lm_mapm {A nu : Nat → Nat} {n m : Nat} {α : Type} {f : α → qe_SV} {g : α → Value} {l : List α} (h : ∀ x, x ∈ l → qe_SVm A nu n m (f x) (g x)) : qe_LM A nu n m (l.map f) (l.map g) := by
  induction l with
  | nil => exact True.intro
  | cons x r ih => exact ⟨h x List.mem_cons_self, ih fun y hy => h y (List.mem_cons_of_mem _ hy)⟩
theorem qe_tab_rng : (List.range 6).all (fun i => (Tab i).all (fun z => decide (-2147483648 ≤ z) && decide (z < 2147483648))) = true := by decide +kernel
theorem qe_tab_m {A nu : Nat → Nat} {n m i : Nat} (hi : i < 6) : qe_LM A nu n m (qe_tG i) (iv (Tab i)) := by
  refine qe_lm_mapm fun z hz => ?_
  have h1 := List.all_eq_true.mp (List.all_eq_true.mp qe_tab_rng i (List.mem_range.mpr hi)) z hz
  exact qe_k_ok (of_decide_eq_true (qe_and2 h1).1) (of_decide_eq_true (qe_and2 h1).2)
/-- the tables that stand from the start, and one row more -/
theorem qe_hm_start {A nu : Nat → Nat} {n m : Nat} {h : AH} {o : qe_SO} (ht : ∀ i, i < 6 → h.1 (A i) = some (tabK i, iv (Tab i))) (ho : ∃ c vs, h.1 (A 6) = some (c, vs) ∧ (qe_KM 6 o.1 c ∧ (qe_CM A nu n m o.2 vs ∧ 30 ≤ o.1))) : qe_HM A nu n m (qe_tGs ++ [o]) h := by
  intro k p hk
  have hl : k < 7 := (List.getElem?_eq_some_iff.mp hk).1
  have hc : k = 0 ∨ k = 1 ∨ k = 2 ∨ k = 3 ∨ k = 4 ∨ k = 5 ∨ k = 6 := by omega
  rcases hc with rfl | rfl | rfl | rfl | rfl | rfl | rfl
  · have e : ((30, .inr (qe_tG 0)) : qe_SO) = p := Option.some.inj hk
    rw [← e]
    exact ⟨30, _, ht 0 (by omega), .inl rfl, qe_tab_m (by omega), fun _ => Nat.le_refl 30⟩
  · have e : ((33, .inr (qe_tG 1)) : qe_SO) = p := Option.some.inj hk
    rw [← e]
    exact ⟨33, _, ht 1 (by omega), .inl rfl, qe_tab_m (by omega), fun _ => by show 30 ≤ 33; omega⟩
  · have e : ((30, .inr (qe_tG 2)) : qe_SO) = p := Option.some.inj hk
    rw [← e]
    exact ⟨30, _, ht 2 (by omega), .inl rfl, qe_tab_m (by omega), fun _ => Nat.le_refl 30⟩
  · have e : ((30, .inr (qe_tG 3)) : qe_SO) = p := Option.some.inj hk
    rw [← e]
    exact ⟨30, _, ht 3 (by omega), .inl rfl, qe_tab_m (by omega), fun _ => Nat.le_refl 30⟩
  · have e : ((30, .inr (qe_tG 4)) : qe_SO) = p := Option.some.inj hk
    rw [← e]
    exact ⟨30, _, ht 4 (by omega), .inl rfl, qe_tab_m (by omega), fun _ => Nat.le_refl 30⟩
  · have e : ((34, .inr []) : qe_SO) = p := Option.some.inj hk
    rw [← e]
    exact ⟨34, _, ht 5 (by omega), .inl rfl, True.intro, fun _ => by show 30 ≤ 34; omega⟩
  · have e : o = p := Option.some.inj hk
    rw [← e]
    obtain ⟨c, vs, h1, h2, h3, h4⟩ := ho
    exact ⟨c, vs, h1, h2, h3, fun _ => h4⟩
