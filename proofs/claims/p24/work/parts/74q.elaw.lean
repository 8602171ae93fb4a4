/-! ===== waysToChoose on every heap; the law's runs ===== -/
theorem qe_lm_mapm {A nu : Nat → Nat} {n m : Nat} {α : Type} {f : α → qe_SV} {g : α → Value} {l : List α} (h : ∀ x, x ∈ l → qe_SVm A nu n m (f x) (g x)) : qe_LM A nu n m (l.map f) (l.map g) := by
  induction l with
  | nil => exact True.intro
  | cons x r ih => exact ⟨h x List.mem_cons_self, ih fun y hy => h y (List.mem_cons_of_mem _ hy)⟩
theorem qe_tab_rng : (List.range 6).all (fun i => (Tab i).all (fun z => decide (-2147483648 ≤ z) && decide (z < 2147483648))) = true := by decide +kernel
theorem qe_tab_m {A nu : Nat → Nat} {n m i : Nat} (hi : i < 6) : qe_LM A nu n m (qe_tG i) (iv (Tab i)) := by
  refine qe_lm_mapm fun z hz => ?_
  have h1 := List.all_eq_true.mp (List.all_eq_true.mp qe_tab_rng i (List.mem_range.mpr hi)) z hz
  exact qe_k_ok (of_decide_eq_true (qe_and2 h1).1) (of_decide_eq_true (qe_and2 h1).2)
/-- the tables that stand from the start, and one row more -/
theorem qe_hm_start {A nu : Nat → Nat} {n m : Nat} {h : AH} {o : qe_SO} (ht : ∀ i, i < 6 → h.1 (A i) = some (tabK i, iv (Tab i))) (ho : ∃ c vs, h.1 (A 6) = some (c, vs) ∧ (qe_KM 6 o.1 c ∧ (qe_CM A nu n m o.2 vs ∧ 30 ≤ o.1))) : qe_HM A nu n m (qe_tGs ++ [o]) h := by
  intro k p hk
  have hl : k < 7 := (List.getElem?_eq_some_iff.mp hk).1
  have hc : k = 0 ∨ k = 1 ∨ k = 2 ∨ k = 3 ∨ k = 4 ∨ k = 5 ∨ k = 6 := by omega
  rcases hc with rfl | rfl | rfl | rfl | rfl | rfl | rfl
  · have e : ((30, .inr (qe_tG 0)) : qe_SO) = p := Option.some.inj hk
    rw [← e]
    exact ⟨30, _, ht 0 (by omega), .inl rfl, qe_tab_m (by omega), fun _ => Nat.le_refl 30⟩
  · have e : ((33, .inr (qe_tG 1)) : qe_SO) = p := Option.some.inj hk
    rw [← e]
    exact ⟨33, _, ht 1 (by omega), .inl rfl, qe_tab_m (by omega), fun _ => by show 30 ≤ 33; omega⟩
  · have e : ((30, .inr (qe_tG 2)) : qe_SO) = p := Option.some.inj hk
    rw [← e]
    exact ⟨30, _, ht 2 (by omega), .inl rfl, qe_tab_m (by omega), fun _ => Nat.le_refl 30⟩
  · have e : ((30, .inr (qe_tG 3)) : qe_SO) = p := Option.some.inj hk
    rw [← e]
    exact ⟨30, _, ht 3 (by omega), .inl rfl, qe_tab_m (by omega), fun _ => Nat.le_refl 30⟩
  · have e : ((30, .inr (qe_tG 4)) : qe_SO) = p := Option.some.inj hk
    rw [← e]
    exact ⟨30, _, ht 4 (by omega), .inl rfl, qe_tab_m (by omega), fun _ => Nat.le_refl 30⟩
  · have e : ((34, .inr []) : qe_SO) = p := Option.some.inj hk
    rw [← e]
    exact ⟨34, _, ht 5 (by omega), .inl rfl, True.intro, fun _ => by show 30 ≤ 34; omega⟩
  · have e : o = p := Option.some.inj hk
    rw [← e]
    obtain ⟨c, vs, h1, h2, h3, h4⟩ := ho
    exact ⟨c, vs, h1, h2, h3, fun _ => h4⟩
theorem qe_isE_ok {v : Option qe_SV} {x : qe_SV} (h : qe_isE v x = true) : v = some x := by
  unfold qe_isE at h
  split at h
  · exact Bool.noConfusion h
  · rw [qe_veq_ok h]
theorem qe_isU_ok {o : Option qe_SO} (h : qe_isU o = true) : ∃ x y, o = some (21, .inl (1891, (3, x, y))) := by
  unfold qe_isU at h
  split at h
  · exact Bool.noConfusion h
  · rename_i p
    obtain ⟨k, c⟩ := p
    dsimp only at h
    split at h
    · rename_i q
      obtain ⟨h1, h2⟩ := qe_and2 h
      obtain ⟨h3, h4⟩ := qe_and2 h2
      obtain ⟨l, t, x, y⟩ := q
      have e1 : k = 21 := qe_beqt h1
      have e2 : l = 1891 := qe_beqt h3
      have e3 : t = 3 := qe_beqt h4
      rw [e1, e2, e3]
      exact ⟨x, y, rfl⟩
    · exact Bool.noConfusion h
theorem qe_ways_ok {A σ : Nat → Nat} {base : Nat} {hb : (Nat → Option AO) × Nat} (ht : ∀ i, i < 6 → σ i < base ∧ hb.1 (σ i) = some (tabK i, iv (Tab i))) : qe_Ways σ base 1000000 hb A := by
  intro f nu G h hR
  obtain ⟨-, -, r3, r4, -, r6⟩ := hR
  have hbase : base ≤ h.2.1 := by omega
  have hA : qe_AOK (qe_al σ (σ 0) h.2.1) σ h.2.1 := by
    refine ⟨fun k hk => ?_, fun k hk => ?_, fun i hi => ?_⟩
    · unfold qe_al
      cases h7 : Nat.ble 7 k
      · rw [cond_false]
        cases h6 : Nat.beq k 6
        · have := qe_beqf h6
          rw [cond_false]
          have := (ht k (by omega)).1
          omega
        · rw [cond_true]
          have := (ht 0 (by omega)).1
          omega
      · have := qe_blet h7; omega
    · unfold qe_al
      rw [Nat.ble_eq_true_of_le hk, cond_true]
    · unfold qe_al
      cases h7 : Nat.ble 7 i
      · rw [cond_false]
        cases h6 : Nat.beq i 6
        · rfl
        · have := qe_beqt h6; omega
      · have := qe_blet h7; omega
  have hT : ∀ i, i < 6 → h.1 (qe_al σ (σ 0) h.2.1 i) = some (tabK i, iv (Tab i)) := fun i hi => by
    rw [hA.2.2 i hi, r6 _ (ht i hi).1]; exact (ht i hi).2
  have e6 : qe_al σ (σ 0) h.2.1 6 = σ 0 := rfl
  have hR1 : qe_RM (qe_al σ (σ 0) h.2.1) (fun _ => 0) h.2.1 (h.1, h.2.2) qe_GW h := by
    refine ⟨⟨fun i => ⟨Nat.le_refl 0, Nat.zero_le _⟩, fun d hd => by cases hd⟩, qe_hm_start hT ⟨30, iv (Tab 0), ?_, .inl rfl, qe_tab_m (by omega), Nat.le_refl 30⟩, Nat.le_refl 7, rfl, rfl, fun q _ => rfl⟩
    rw [e6, ← hA.2.2 0 (by omega)]
    exact hT 0 (by omega)
  have hw := qe_ways_run
  unfold qe_okW at hw
  split at hw
  · exact Bool.noConfusion hw
  · rename_i es hes
    obtain ⟨q, q1, nu', v, h', p1, p2, p3, p4⟩ := qe_srun_ok (K := 0) hA (.inl rfl) 1000000 8 (codeOf 8) [] [] qe_GW es (fun _ => 0) [] [] h qe_code_ai hR1 True.intro True.intro hes
    obtain ⟨b1, b2⟩ := qe_and2 (List.all_eq_true.mp hw q q1)
    obtain ⟨b3, b4⟩ := qe_and2 b2
    obtain ⟨b5, b6⟩ := qe_and2 b3
    have e1 := qe_isE_ok b1
    obtain ⟨x, y, e2⟩ := qe_isU_ok b4
    have e3 := qe_beqt b5
    have e4 := qe_beqt b6
    rw [e1] at p2
    cases v with
    | none => exact p2.elim
    | some V =>
      have e5 : V = .ref (h.2.1 + 0) := (qe_sv_obj p2 rfl).1
      obtain ⟨-, s2, -, s4, s5, s6⟩ := p3
      obtain ⟨c, vs, g1, g2, g3, -⟩ := s2 7 _ e2
      have hc : c = 21 := qe_km_eq g2 (by show (21 : Nat) ≠ 31; omega)
      refine ⟨vs, h', ?_, g3.1, fun u hu => ?_, s6, ?_, ?_, ?_⟩
      · have := qe_run_more f _ _ _ _ _ _ p1
        rw [show 1000000 + 0 + f = f + 1000000 by omega] at this
        rw [this, e5]; rfl
      · have := g3.2 u hu
        exact qe_sv_long this rfl
      · have e7 : qe_al σ (σ 0) h.2.1 7 = h.2.1 := rfl
        rw [e7] at g1
        rw [g1, hc]
      · rw [s4, e3]
      · rw [s5, e4]
