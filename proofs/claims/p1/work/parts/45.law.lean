/-! ===== waysToChoose on every heap; the law's runs ===== -/
theorem lm_mapm {A nu : Nat → Nat} {n m : Nat} {α : Type} {f : α → SV} {g : α → Value} {l : List α} (h : ∀ x, x ∈ l → SVm A nu n m (f x) (g x)) : LM A nu n m (l.map f) (l.map g) := by
  induction l with
  | nil => exact True.intro
  | cons x r ih => exact ⟨h x List.mem_cons_self, ih fun y hy => h y (List.mem_cons_of_mem _ hy)⟩
theorem tab_rng : (List.range 6).all (fun i => (Tab i).all (fun z => decide (-2147483648 ≤ z) && decide (z < 2147483648))) = true := by decide +kernel
theorem tab_m {A nu : Nat → Nat} {n m i : Nat} (hi : i < 6) : LM A nu n m (tG i) (iv (Tab i)) := by
  refine lm_mapm fun z hz => ?_
  have h1 := List.all_eq_true.mp (List.all_eq_true.mp tab_rng i (List.mem_range.mpr hi)) z hz
  exact k_ok (of_decide_eq_true (and2 h1).1) (of_decide_eq_true (and2 h1).2)
/-- the tables that stand from the start, and one row more -/
theorem hm_start {A nu : Nat → Nat} {n m : Nat} {h : AH} {o : SO} (ht : ∀ i, i < 6 → h.1 (A i) = some (tabK i, iv (Tab i))) (ho : ∃ c vs, h.1 (A 6) = some (c, vs) ∧ (KM 6 o.1 c ∧ (CM A nu n m o.2 vs ∧ 30 ≤ o.1))) : HM A nu n m (tGs ++ [o]) h := by
  intro k p hk
  have hl : k < 7 := (List.getElem?_eq_some_iff.mp hk).1
  have hc : k = 0 ∨ k = 1 ∨ k = 2 ∨ k = 3 ∨ k = 4 ∨ k = 5 ∨ k = 6 := by omega
  rcases hc with rfl | rfl | rfl | rfl | rfl | rfl | rfl
  · have e : ((30, .inr (tG 0)) : SO) = p := Option.some.inj hk
    rw [← e]
    exact ⟨30, _, ht 0 (by omega), .inl rfl, tab_m (by omega), fun _ => Nat.le_refl 30⟩
  · have e : ((33, .inr (tG 1)) : SO) = p := Option.some.inj hk
    rw [← e]
    exact ⟨33, _, ht 1 (by omega), .inl rfl, tab_m (by omega), fun _ => by show 30 ≤ 33; omega⟩
  · have e : ((30, .inr (tG 2)) : SO) = p := Option.some.inj hk
    rw [← e]
    exact ⟨30, _, ht 2 (by omega), .inl rfl, tab_m (by omega), fun _ => Nat.le_refl 30⟩
  · have e : ((30, .inr (tG 3)) : SO) = p := Option.some.inj hk
    rw [← e]
    exact ⟨30, _, ht 3 (by omega), .inl rfl, tab_m (by omega), fun _ => Nat.le_refl 30⟩
  · have e : ((30, .inr (tG 4)) : SO) = p := Option.some.inj hk
    rw [← e]
    exact ⟨30, _, ht 4 (by omega), .inl rfl, tab_m (by omega), fun _ => Nat.le_refl 30⟩
  · have e : ((34, .inr []) : SO) = p := Option.some.inj hk
    rw [← e]
    exact ⟨34, _, ht 5 (by omega), .inl rfl, True.intro, fun _ => by show 30 ≤ 34; omega⟩
  · have e : o = p := Option.some.inj hk
    rw [← e]
    obtain ⟨c, vs, h1, h2, h3, h4⟩ := ho
    exact ⟨c, vs, h1, h2, h3, fun _ => h4⟩
theorem isE_ok {v : Option SV} {x : SV} (h : isE v x = true) : v = some x := by
  unfold isE at h
  split at h
  · exact Bool.noConfusion h
  · rw [veq_ok h]
theorem isU_ok {o : Option SO} (h : isU o = true) : ∃ x y, o = some (21, .inl (1891, (3, x, y))) := by
  unfold isU at h
  split at h
  · exact Bool.noConfusion h
  · rename_i p
    obtain ⟨k, c⟩ := p
    dsimp only at h
    split at h
    · rename_i q
      obtain ⟨h1, h2⟩ := and2 h
      obtain ⟨h3, h4⟩ := and2 h2
      obtain ⟨l, t, x, y⟩ := q
      have e1 : k = 21 := beqt h1
      have e2 : l = 1891 := beqt h3
      have e3 : t = 3 := beqt h4
      rw [e1, e2, e3]
      exact ⟨x, y, rfl⟩
    · exact Bool.noConfusion h
theorem ways_ok {A σ : Nat → Nat} {base : Nat} {hb : (Nat → Option AO) × Nat} (ht : ∀ i, i < 6 → σ i < base ∧ hb.1 (σ i) = some (tabK i, iv (Tab i))) : Ways σ base 1000000 hb A := by
  intro f nu G h hR
  obtain ⟨-, -, r3, r4, -, r6⟩ := hR
  have hbase : base ≤ h.2.1 := by omega
  have hA : AOK (al σ (σ 0) h.2.1) σ h.2.1 := by
    refine ⟨fun k hk => ?_, fun k hk => ?_, fun i hi => ?_⟩
    · unfold al
      cases h7 : Nat.ble 7 k
      · rw [cond_false]
        cases h6 : Nat.beq k 6
        · have := beqf h6
          rw [cond_false]
          have := (ht k (by omega)).1
          omega
        · rw [cond_true]
          have := (ht 0 (by omega)).1
          omega
      · have := blet h7; omega
    · unfold al
      rw [Nat.ble_eq_true_of_le hk, cond_true]
    · unfold al
      cases h7 : Nat.ble 7 i
      · rw [cond_false]
        cases h6 : Nat.beq i 6
        · rfl
        · have := beqt h6; omega
      · have := blet h7; omega
  have hT : ∀ i, i < 6 → h.1 (al σ (σ 0) h.2.1 i) = some (tabK i, iv (Tab i)) := fun i hi => by
    rw [hA.2.2 i hi, r6 _ (ht i hi).1]; exact (ht i hi).2
  have e6 : al σ (σ 0) h.2.1 6 = σ 0 := rfl
  have hR1 : RM (al σ (σ 0) h.2.1) (fun _ => 0) h.2.1 (h.1, h.2.2) GW h := by
    refine ⟨⟨fun i => ⟨Nat.le_refl 0, Nat.zero_le _⟩, fun d hd => by cases hd⟩, hm_start hT ⟨30, iv (Tab 0), ?_, .inl rfl, tab_m (by omega), Nat.le_refl 30⟩, Nat.le_refl 7, rfl, rfl, fun q _ => rfl⟩
    rw [e6, ← hA.2.2 0 (by omega)]
    exact hT 0 (by omega)
  have hw := ways_run
  unfold okW at hw
  split at hw
  · exact Bool.noConfusion hw
  · rename_i es hes
    obtain ⟨q, q1, nu', v, h', p1, p2, p3, p4⟩ := srun_ok (K := 0) hA (.inl rfl) 1000000 8 (codeOf 8) [] [] GW es (fun _ => 0) [] [] h code_ai hR1 True.intro True.intro hes
    obtain ⟨b1, b2⟩ := and2 (List.all_eq_true.mp hw q q1)
    obtain ⟨b3, b4⟩ := and2 b2
    obtain ⟨b5, b6⟩ := and2 b3
    have e1 := isE_ok b1
    obtain ⟨x, y, e2⟩ := isU_ok b4
    have e3 := beqt b5
    have e4 := beqt b6
    rw [e1] at p2
    cases v with
    | none => exact p2.elim
    | some V =>
      have e5 : V = .ref (h.2.1 + 0) := (sv_obj p2 rfl).1
      obtain ⟨-, s2, -, s4, s5, s6⟩ := p3
      obtain ⟨c, vs, g1, g2, g3, -⟩ := s2 7 _ e2
      have hc : c = 21 := km_eq g2 (by show (21 : Nat) ≠ 31; omega)
      refine ⟨vs, h', ?_, g3.1, fun u hu => ?_, s6, ?_, ?_, ?_⟩
      · have := run_more f _ _ _ _ _ _ p1
        rw [show 1000000 + 0 + f = f + 1000000 by omega] at this
        rw [this, e5]; rfl
      · have := g3.2 u hu
        exact sv_long this rfl
      · have e7 : al σ (σ 0) h.2.1 7 = h.2.1 := rfl
        rw [e7] at g1
        rw [g1, hc]
      · rw [s4, e3]
      · rw [s5, e4]
/-- one symbolic run that ends well gives the law's run -/
theorem law_of {base b : Nat} {σ : Nat → Nat} {xs : List Int32} {h0 : AH} {G : SG} {nu : Nat → Nat} (hS : Start base b σ xs h0) (h6 : RM (al σ b base) nu base (h0.1, 0) G h0) (hr : okE (srun 8 1000000 286 (codeOf 286) [(0, sref 6)] [] G) = true) : ∃ (f : Nat) (h' : AH), run σ f mLaw (codeOf mLaw) (am_args 0 [.ref b]) [] h0 = some (some (.int 1), h') ∧ h'.2.1 - base ≤ 600000 ∧ h'.2.2 ≤ 7302250 := by
  obtain ⟨s1, s2, s3, ⟨kb, -, s4⟩, s5⟩ := hS
  have hlt : ∀ q x, h0.1 q = some x → q < base := fun q x hq => Nat.lt_of_not_le fun hle => by rw [s3 q hle] at hq; cases hq
  have hbb := hlt b _ s4
  have hA : AOK (al σ b base) σ base := by
    refine ⟨fun k hk => ?_, fun k hk => ?_, fun i hi => ?_⟩
    · unfold al
      cases h7 : Nat.ble 7 k
      · rw [cond_false]
        cases h6 : Nat.beq k 6
        · have := beqf h6
          rw [cond_false]
          exact hlt _ _ (s5 k (by omega))
        · exact hbb
      · have := blet h7; omega
    · unfold al
      rw [Nat.ble_eq_true_of_le hk, cond_true]
    · unfold al
      cases h7 : Nat.ble 7 i
      · rw [cond_false]
        cases h6 : Nat.beq i 6
        · rfl
        · have := beqt h6; omega
      · have := blet h7; omega
  unfold okE at hr
  split at hr
  · exact Bool.noConfusion hr
  · rename_i es hes
    have hl6 : 6 < (g_h G).length := Nat.lt_of_lt_of_le (by omega) h6.2.2.1
    obtain ⟨q, q1, nu', v, h', p1, p2, p3, p4⟩ := srun_ok (K := 1000000) hA (.inr ⟨rfl, ways_ok fun i hi => ⟨hlt _ _ (s5 i hi), s5 i hi⟩⟩) 1000000 286 (codeOf 286) [(0, sref 6)] [] G es nu [(0, .ref b)] [] h0 code_ai h6 ⟨rfl, ⟨rfl, hl6, rfl⟩, True.intro⟩ True.intro hes
    obtain ⟨b1, b2⟩ := and2 (List.all_eq_true.mp hr q q1)
    obtain ⟨b3, b4⟩ := and2 b2
    have e1 := isE_ok b1
    have b3 := blet b3
    have b4 := blet b4
    rw [e1] at p2
    obtain ⟨-, -, t3, t4, t5, -⟩ := p3
    cases v with
    | none => exact p2.elim
    | some V =>
      obtain ⟨y, rfl⟩ := sv_int p2 rfl
      have hy : y = 1 := by
        rcases p2 with ⟨_, z1, z2⟩ | ⟨z, _⟩
        · have z1 : 2147483649 ≤ i2n y := z1
          have z2 : i2n y ≤ 2147483649 := z2
          exact i2n_inj (by rw [c_1]; omega)
        · exact absurd z (by decide)
      subst hy
      exact ⟨_, h', p1, by omega, by rw [t5]; show 0 + _ ≤ _; omega⟩
theorem xs_map (xs : List Int32) : xs.map Value.int = (List.range xs.length).map (fun i => .int (xs.getD i 0)) := by
  apply List.ext_getElem
  · rw [List.length_map, List.length_map, List.length_range]
  · intro i h1 h2
    rw [List.getElem_map, List.getElem_map, List.getElem_range, List.getD_eq_getElem?_getD, List.getElem?_eq_getElem (by rw [List.length_map] at h1; exact h1)]
    rfl
noncomputable def nuX (xs : List Int32) (i : Nat) : Nat := if i = 7 then i2n (xs.getD 0 0 &&& 63) else i2n (xs.getD i 0)
theorem nuX_lt (xs : List Int32) (i : Nat) : nuX xs i ≤ 4294967295 := by
  unfold nuX
  split
  · exact Nat.le_of_lt_succ (i2n_lt _)
  · exact Nat.le_of_lt_succ (i2n_lt _)
theorem hm_law {base b m : Nat} {σ : Nat → Nat} {xs : List Int32} {h0 : AH} (hS : Start base b σ xs h0) (hl : xs.length ≤ 7) (hm : xs.length ≤ m) : HM (al σ b base) (nuX xs) 7 m (tGs ++ [(31, .inr ((List.range xs.length).map (fun (i : Nat) => ((1, i, 0) : SV))))]) h0 := by
  obtain ⟨s1, s2, s3, ⟨kb, hk, s4⟩, s5⟩ := hS
  refine hm_start (fun i hi => ?_) ⟨kb, xs.map Value.int, s4, ?_, ?_, Nat.le_succ 30⟩
  · have e : al σ b base i = σ i := by
      unfold al
      cases h7 : Nat.ble 7 i
      · rw [cond_false]
        cases h6 : Nat.beq i 6
        · rfl
        · have := beqt h6; omega
      · have := blet h7; omega
    rw [e]
    exact s5 i hi
  · rcases hk with e | e
    · exact .inr ⟨rfl, rfl, e⟩
    · exact .inl e
  · rw [xs_map]
    refine cm_inr (lm_mapm fun i hi => ?_)
    have h1 := List.mem_range.mp hi
    refine .inr ⟨rfl, Nat.lt_of_lt_of_le h1 hm, ?_⟩
    show _ = nuX xs i
    unfold nuX
    rw [if_neg (by omega)]
theorem rm_L {base b : Nat} {σ : Nat → Nat} {xs : List Int32} {h0 : AH} {L : Nat} (hS : Start base b σ xs h0) (hL : xs.length = L) (hl : L < 7) : RM (al σ b base) (nuX xs) base (h0.1, 0) (GL L) h0 := by
  subst hL
  refine ⟨⟨fun i => ⟨Nat.zero_le _, nuX_lt xs i⟩, fun d hd => by cases hd⟩, hm_law hS (by omega) (Nat.le_refl _), Nat.le_refl 7, hS.1, hS.2.1, fun q _ => rfl⟩
theorem rm_C {base b : Nat} {σ : Nat → Nat} {xs : List Int32} {h0 : AH} {c d i lo hi : Nat} (hS : Start base b σ xs h0) (hL : xs.length = 7) (h1 : c ≤ nuX xs 7) (h2 : nuX xs 7 ≤ d) (h3 : lo ≤ nuX xs i) (h4 : nuX xs i ≤ hi) : RM (al σ b base) (nuX xs) base (h0.1, 0) (GC c d i lo hi) h0 := by
  have hm := hm_law (m := 8) hS (by omega) (by omega)
  rw [hL] at hm
  refine ⟨⟨?_, ?_⟩, hm, Nat.le_refl 7, hS.1, hS.2.1, fun q _ => rfl⟩
  · exact env_know (env_know (fun i => ⟨Nat.zero_le _, nuX_lt xs i⟩) h3 h4) h1 h2
  · intro q hq
    have e : q = (7, 5, (1, 0, 0), sk 2147483711) := List.mem_singleton.mp hq
    subst e
    refine ⟨.inr ⟨rfl, (by show 0 < 8; omega)⟩, .inl rfl, .inr ⟨by show 5 < 100; omega, (by show 7 < 8; omega), xs.getD 0 0, 63, xs.getD 0 0 &&& 63, ?_, ?_, rfl, ?_⟩⟩
    · show _ = nuX xs 0
      unfold nuX
      rw [if_neg (by omega)]
    · show i2n 63 = 2147483711
      decide +kernel
    · show _ = nuX xs 7
      unfold nuX
      rw [if_pos rfl]
