/-! ===== contracts: arguments, results, a call answered ===== -/
noncomputable def AtV (ad : AD) (t : Nat × Nat × Nat) (V : Value) : Prop :=
  (t.1 = 0 ∧ ∃ X, V = .int X ∧ (t.2.1 ≤ i2n X ∧ i2n X ≤ t.2.2)) ∨ (t.1 = 1 ∧ ∃ X, V = .long X) ∨
  (t.1 = 2 ∧ (t.2.1 < 1000 ∧ ∃ e, RefV ad t.2.1 e V ∧ ((bif Nat.beq t.2.2 1 then 2147483647 else 2147483648) ≤ e ∧ e ≤ 2148532224))) ∨
  (t.1 = 3 ∧ V = .null) ∨ ((t.1 ≠ 0 ∧ (t.1 ≠ 1 ∧ (t.1 ≠ 2 ∧ t.1 ≠ 3))) ∧ (t.2.1 < 1000 ∧ RefV ad t.2.1 2147483648 V))
noncomputable def AtVs (ad : AD) (ts : List (Nat × Nat × Nat)) (vs : List Value) : Prop := match ts, vs with
  | [], [] => True
  | t :: ts, v :: vs => AtV ad t v ∧ AtVs ad ts vs
  | _, _ => False
section
variable {B : BS} {I I' : IN} {n m n' m' : Nat} {G G' : SG} {h h' h0 h1 : AH} {lv lv' lv0 : SLV} {L L' L1 : LV} {c : Int} {a k kd i f : Nat} {s : SV} {v : Value}
theorem sv_name {c e : Nat} {nu : Nat → Nat} {V : Value} (hc : c < 1000) (hV : RefV I.2.2 c e V) (hn : i < m) (he : nu i = e) : SVm (nu, I.2) n m (6, c, i) V := by
  refine Or.inr (Or.inr (Or.inr (Or.inr ⟨rfl, fun _ => hn, hc, ?_⟩)))
  show RefV I.2.2 c (nu i) V
  rw [he]
  exact hV
theorem at_new_ok : ∀ {ts : List (Nat × Nat × Nat)} {vs : List Value} {I : IN} {G : SG}, RM B I G h → AtVs I.2.2 ts vs → ∃ nu', RM B (nu', I.2) (at_new ts G).2 h ∧ (NH I G nu' (at_new ts G).2 ∧ LM (nu', I.2) (g_h (at_new ts G).2).length (g_n (at_new ts G).2) (at_new ts G).1 vs) := by
  intro ts
  induction ts with
  | nil =>
    intro vs I G hR hv
    cases vs with
    | nil => exact ⟨I.1, hR, nh_refl I G, True.intro⟩
    | cons => exact hv.elim
  | cons t ts ih =>
    intro vs I G hR hv
    cases vs with
    | nil => exact hv.elim
    | cons V vs =>
      obtain ⟨h1, h2⟩ := hv
      have fin : ∀ {nu1 : Nat → Nat} {G1 : SG} {s : SV}, NK I.1 G nu1 G1 → SVm (nu1, I.2) (g_h G1).length (g_n G1) s V → ∃ nu', RM B (nu', I.2) (at_new ts G1).2 h ∧ (NH I G nu' (at_new ts G1).2 ∧ LM (nu', I.2) (g_h (at_new ts G1).2).length (g_n (at_new ts G1).2) (s :: (at_new ts G1).1) (V :: vs)) := by
        intro nu1 G1 s k hs
        obtain ⟨nu2, r1, r2, r3⟩ := ih (I := (nu1, I.2)) (rm_nk hR k) h2
        exact ⟨nu2, r1, nh_trans (nh_nk k) r2, sv_nh (I := (nu1, I.2)) hs r2, r3⟩
      rw [at_new]
      rcases h1 with ⟨e, X, rfl, x1, x2⟩ | ⟨e, X, rfl⟩ | ⟨e, e1, x, e2, e3, e4⟩ | ⟨e, rfl⟩ | ⟨⟨e0, e1, e2, e3⟩, e4, e5⟩
      · rw [e, Nat.beq_refl, cond_true]
        obtain ⟨nu1, k1, k2⟩ := mk_name hR x1 x2
        exact fin k1 (sv_of_int k2)
      · rw [e]
        obtain ⟨nu1, k1, k2⟩ := mk_long (X := X) hR
        exact fin k1 (sv_of_long k2)
      · rw [e]
        have k1 := nk_fresh (lo := bif Nat.beq t.2.2 1 then 2147483647 else 2147483648) (hi := 2148532224) (w := x) hR.1 e3 e4
        exact fin k1 (sv_name e1 e2 (Nat.lt_succ_self _) (nset_at _ _ _))
      · rw [e]
        exact fin (nk_refl hR.1) (Or.inr (Or.inr (Or.inl ⟨rfl, rfl⟩)))
      · have b : ∀ k, t.1 ≠ k → Nat.beq t.1 k = false := fun k hk => by
          cases b : Nat.beq t.1 k
          · rfl
          · exact absurd (beqt b) hk
        rw [b 0 e0, b 1 e1, b 2 e2, b 3 e3, cond_false, cond_false, cond_false, cond_false]
        refine fin (nk_refl hR.1) (Or.inr (Or.inr (Or.inr (Or.inr ⟨rfl, fun hq => Bool.noConfusion hq, e4, ?_⟩))))
        exact e5
theorem pre_len : ∀ {l : List (Nat × Nat × Nat)} {G : SG}, (gen_pre G l).1.length = l.length := by
  intro l
  induction l with
  | nil => intro G; rfl
  | cons p r ih =>
    intro G
    rw [gen_pre]
    show (gen_pre _ r).1.length + 1 = r.length + 1
    rw [ih]
theorem gen_pre_ok : ∀ {l : List (Nat × Nat × Nat)} {I : IN} {G : SG}, RM B I G h → (∀ hh : Nat × Nat × Nat, hh ∈ l → ∃ X, PlV I (g_n G) h (h_place 0 hh.1 []) (.int X) ∧ (hh.2.1 ≤ i2n X ∧ i2n X ≤ hh.2.2)) → ∃ nu', RM B (nu', I.2) (gen_pre G l).2 h ∧ (NH I G nu' (gen_pre G l).2 ∧ ((∀ s, s ∈ (gen_pre G l).1 → okn (g_n (gen_pre G l).2) s) ∧ ∀ (j : Nat) (hh : Nat × Nat × Nat) (s : SV), l[j]? = some hh → (gen_pre G l).1[j]? = some s → ∃ X, PlV (nu', I.2) (g_n (gen_pre G l).2) h (h_place 0 hh.1 []) (.int X) ∧ i2n X = sval nu' s)) := by
  intro l
  induction l with
  | nil =>
    intro I G hR _
    exact ⟨I.1, hR, nh_refl I G, fun s hs => (by cases hs), fun j hh s hj => by cases hj⟩
  | cons p r ih =>
    intro I G hR hp
    obtain ⟨X, p1, p2, p3⟩ := hp p List.mem_cons_self
    have k1 := nk_fresh (lo := p.2.1) (hi := p.2.2) (w := i2n X) hR.1 p2 p3
    have hR1 := rm_nk hR k1
    have p1' := plv_ag p1 k1.2.2.1 k1.2.1
    obtain ⟨a1, a2, a3, a4, a5, a, b, a6, a7, a8⟩ := p1'
    have hV : SVm (nset I.1 (g_n G) (i2n X), I.2) (g_h (y_fresh G p.2.1 p.2.2)).length (g_n (y_fresh G p.2.1 p.2.2)) (1, g_n G, 0) (.int X) := sv_of_int ⟨rfl, fun _ => Nat.lt_succ_self _, (nset_at _ _ _).symm⟩
    have hR2 := rm_cell hR1 (cell_mk a1 a2 a3 a5 a6 a7 a8 hV)
    obtain ⟨nu', q1, q2, q3, q4⟩ := ih (I := (nset I.1 (g_n G) (i2n X), I.2)) hR2 (fun p' hp' => by
      obtain ⟨Y, y1, y2⟩ := hp p' (List.mem_cons_of_mem _ hp')
      exact ⟨Y, plv_ag y1 k1.2.2.1 k1.2.1, y2⟩)
    rw [gen_pre]
    have on : okn (g_n (y_put (y_fresh G p.2.1 p.2.2) (h_place 0 p.1 []).1 (h_place 0 p.1 []).2.1 (h_place 0 p.1 []).2.2 (1, g_n G, 0))) (1, g_n G, 0) := fun _ => Nat.lt_succ_self _
    refine ⟨nu', q1, nh_trans (nh_put (nh_nk k1)) q2, fun s hs => ?_, fun j hh s hj hs => ?_⟩
    · rcases List.mem_cons.mp hs with rfl | hs
      · exact okn_up on q2.2.1
      · exact q3 s hs
    · cases j with
      | zero =>
        cases hj
        cases hs
        refine ⟨X, plv_ag (I := (nset I.1 (g_n G) (i2n X), I.2)) ⟨a1, a2, a3, a4, a5, a, b, a6, a7, a8⟩ q2.2.1 q2.1, ?_⟩
        rw [sval_ag on q2.1]
        exact (nset_at _ _ _).symm
      | succ j => exact q4 j hh s hj hs
theorem rt_new_ok {B' : BS} {t : Nat × Nat × Nat} {q : Option SV} {v : Option Value} (hT : T1 I.2.2 h) (ht : t.1 = 2 → t.2.1 < 1000) (hR : RM B I G h) (hR' : RM B' I' G' h) (ha : I'.2.2 = I.2.2) (hn : g_h G' = []) (hv : OVM I' (g_h G').length (g_n G') q v) (hf : rt_fit t G' q = true) : ∃ nu', NK I.1 G nu' (rt_new t G).2 ∧ OVM (nu', I.2) (g_h (rt_new t G).2).length (g_n (rt_new t G).2) (rt_new t G).1 v := by
  unfold rt_fit at hf
  unfold rt_new
  cases q with
  | none =>
    cases v with
    | some v => exact hv.elim
    | none =>
      have := beqt hf
      rw [this]
      exact ⟨I.1, nk_refl hR.1, True.intro⟩
  | some s =>
    cases v with
    | none => exact hv.elim
    | some V =>
      dsimp only at hf
      obtain ⟨f1, -⟩ := fwd_ok hR' hv
      generalize y_fwd G' s = w at hf f1
      cases t0 : Nat.beq t.1 0
      · rw [t0, cond_false] at hf
        rw [cond_false]
        cases t1 : Nat.beq t.1 1
        · rw [t1, cond_false] at hf
          rw [cond_false]
          cases t2 : Nat.beq t.1 2
          · rw [t2, cond_false] at hf
            rw [cond_false]
            obtain ⟨t3, hf⟩ := bifb hf
            rw [t3, cond_true]
            exact ⟨I.1, nk_refl hR.1, Or.inr (Or.inr (Or.inl ⟨rfl, sv_null f1 (beqt hf)⟩))⟩
          · rw [t2, cond_true] at hf
            rw [cond_true]
            have hc := ht (beqt t2)
            have hx : ∃ e, RefV I.2.2 t.2.1 e V ∧ ((bif Nat.beq t.2.2 1 then 2147483647 else 2147483648) ≤ e ∧ e ≤ 2148532224) := by
              cases w4 : Nat.beq w.1 4
              · rw [w4, cond_false] at hf
                obtain ⟨g1, hf⟩ := and2 hf
                obtain ⟨g2, hf⟩ := and2 hf
                obtain ⟨o1, o2, o3⟩ := sv_typ f1 g1
                rw [beqt g2, ha] at o3
                have hr := ref_rng hT hc o3
                refine ⟨_, o3, ?_, hr.2⟩
                cases t1 : Nat.beq t.2.2 1
                · rw [t1, cond_false] at hf
                  rw [cond_false]
                  have := (itv_ok hR'.1.1 (y_idx w)).1
                  have := blet hf
                  omega
                · rw [cond_true]
                  exact hr.1
              · rw [w4, cond_true] at hf
                rw [hf, cond_true]
                exact ⟨2147483647, Or.inl ⟨rfl, sv_null f1 (beqt w4)⟩, Nat.le_refl _, by omega⟩
            obtain ⟨e, e1, e2, e3⟩ := hx
            exact ⟨_, nk_fresh hR.1 e2 e3, sv_name hc e1 (Nat.lt_succ_self _) (nset_at _ _ _)⟩
        · rw [t1, cond_true] at hf
          rw [cond_true]
          obtain ⟨X, rfl, -⟩ := sv_long f1 hf
          obtain ⟨nu1, k1, k2⟩ := mk_long (X := X) hR
          exact ⟨nu1, k1, sv_of_long k2⟩
      · rw [t0, cond_true] at hf
        rw [cond_true]
        obtain ⟨g1, g2⟩ := and2 hf
        obtain ⟨X, rfl, hX⟩ := sv_int f1 g1
        obtain ⟨b1, b2⟩ := fit_ok hR'.1 hX g2
        obtain ⟨nu1, k1, k2⟩ := mk_name hR b1 b2
        exact ⟨nu1, k1, sv_of_int k2⟩
/-- what a call's arguments are -/
theorem at_fit_ok : ∀ {ts : List (Nat × Nat × Nat)} {as : List SV} {vs : List Value}, RM B I G h → LM I (g_h G).length (g_n G) as vs → at_fit G as ts = true → AtVs I.2.2 ts vs := by
  intro ts
  induction ts with
  | nil =>
    intro as vs hR hl hf
    cases as with
    | nil => rw [lm_nil hl]; exact True.intro
    | cons => cases hf
  | cons t ts ih =>
    intro as vs hR hl hf
    cases as with
    | nil => cases hf
    | cons s as =>
      obtain ⟨V, vs', rfl, l1, l2⟩ := lm_cons hl
      rw [at_fit] at hf
      obtain ⟨h1, h2⟩ := bifb hf
      refine ⟨?_, ih hR l2 h2⟩
      obtain ⟨f1, -⟩ := fwd_ok hR l1
      generalize y_fwd G s = w at h1 f1
      cases t0 : Nat.beq t.1 0
      · rw [t0, cond_false] at h1
        cases t1 : Nat.beq t.1 1
        · rw [t1, cond_false] at h1
          cases t2 : Nat.beq t.1 2
          · rw [t2, cond_false] at h1
            cases t3 : Nat.beq t.1 3
            · rw [t3, cond_false] at h1
              have e := veq_ok h1
              subst e
              obtain ⟨o1, o2, o3⟩ := sv_typ f1 rfl
              refine Or.inr (Or.inr (Or.inr (Or.inr ⟨⟨beqf t0, beqf t1, beqf t2, beqf t3⟩, o2, ?_⟩)))
              have e9 : sval I.1 (y_idx (7, t.2.1, 2147483648)) = 2147483648 := rfl
              rw [e9] at o3
              exact o3
            · rw [t3, cond_true] at h1
              exact Or.inr (Or.inr (Or.inr (Or.inl ⟨beqt t3, sv_null f1 (beqt h1)⟩)))
          · rw [t2, cond_true] at h1
            obtain ⟨g0, h1⟩ := and2 h1
            have g0 := blet g0
            refine Or.inr (Or.inr (Or.inl ⟨beqt t2, by omega, ?_⟩))
            cases w4 : Nat.beq w.1 4
            · rw [w4, cond_false] at h1
              obtain ⟨g1, h1⟩ := and2 h1
              obtain ⟨g2, h1⟩ := and2 h1
              obtain ⟨o1, o2, o3⟩ := sv_typ f1 g1
              rw [beqt g2] at o3
              have hr := ref_rng hR.2.2.2.1.1 (by omega) o3
              refine ⟨_, o3, ?_, hr.2⟩
              cases t1 : Nat.beq t.2.2 1
              · rw [t1, cond_false] at h1
                rw [cond_false]
                have := (itv_ok hR.1.1 (y_idx w)).1
                have := blet h1
                omega
              · rw [cond_true]
                exact hr.1
            · rw [w4, cond_true] at h1
              rw [h1, cond_true]
              exact ⟨2147483647, Or.inl ⟨rfl, sv_null f1 (beqt w4)⟩, Nat.le_refl _, by omega⟩
        · rw [t1, cond_true] at h1
          obtain ⟨X, rfl, -⟩ := sv_long f1 h1
          exact Or.inr (Or.inl ⟨beqt t1, X, rfl⟩)
      · rw [t0, cond_true] at h1
        obtain ⟨g1, g2⟩ := and2 h1
        obtain ⟨X, rfl, hX⟩ := sv_int f1 g1
        exact Or.inl ⟨beqt t0, X, rfl, fit_ok hR.1 hX g2⟩
/-- the contract's own start -/
theorem rm_zero (hB : ∀ a i, ¬ B.2 a i) (hR : RM B I G h) (hX : x_in (g_x G) = true) (hp : 1 ≤ g_p G) : RM ((I.2.2, h), no2) (fun _ => 0, fun _ => 0, I.2.2) G0c h := by
  obtain ⟨-, -, -, ⟨t1, t2, t3, t4, t5, t6⟩, -, -, -⟩ := hR
  refine ⟨⟨fun i => ⟨Nat.zero_le _, Nat.zero_le _⟩, fun q hq => (by cases hq), fun q hq => (by cases hq), fun q hq => by cases hq⟩, fun k o hk => (by cases hk), ⟨fun k hk => (by cases hk), fun k j hk => (by cases hk)⟩, ⟨t1, t2, t3, ⟨t4.1, t4.2.1, fun c p ty hc ht h5 i hA => ?_⟩, t5, fun t k ht he => ?_⟩, fun x hx => (by cases hx), fun x hx => (by cases hx), fun a _ _ => rfl, fun c i a p _ _ _ => rfl, fun c i a _ e => e, fun c i a e => Or.inl e, Nat.le_refl _, Nat.le_refl _, Nat.le_refl _⟩
  · rcases t4.2.2 c p ty hc ht h5 i hA with e | e
    · exact Or.inl e
    · exact absurd e (hB _ _)
  · have ht : t < 1 := ht
    refine t6 t k (by omega) fun ⟨e, e1, _⟩ => ?_
    have := x_in_ok hX _ e1
    exact this (by show t = 0; omega)
theorem rf_cross {IU IC : IN} {r : RF} {lvU lvC : SLV} {GU GC : SG} {hc : List (Nat × Nat × Nat × Nat)} {cU cC : List SV} {rU rC : Option SV} {x y : SV}
    (h1 : ∀ i s t, s_find i lvU = some s → s_find i lvC = some t → intL s = true → intL t = true → sval IU.1 s = sval IC.1 t)
    (h2 : ∀ hh, hh ∈ hc → ∀ s t, y_find GU (h_place hh.1 hh.2.1 lvU).1 (h_place hh.1 hh.2.1 lvU).2.1 (h_place hh.1 hh.2.1 lvU).2.2 = some s → y_find GC (h_place hh.1 hh.2.1 lvC).1 (h_place hh.1 hh.2.1 lvC).2.1 (h_place hh.1 hh.2.1 lvC).2.2 = some t → intL s = true → intL t = true → sval IU.1 s = sval IC.1 t)
    (h3 : ∀ (j : Nat) s t, cU[j]? = some s → cC[j]? = some t → sval IU.1 s = sval IC.1 t)
    (h4 : ∀ s t, rU = some s → rC = some t → intL s = true → intL t = true → sval IU.1 s = sval IC.1 t)
    (hx : rf_val r [] lvU GU hc cU rU = some x) (hy : rf_val r [] lvC GC hc cC rC = some y) (ix : intL x = true) (iy : intL y = true) : sval IU.1 x = sval IC.1 y := by
  unfold rf_val at hx hy
  cases k0 : Nat.beq r.1 0
  · rw [k0, cond_false] at hx hy
    cases k1 : Nat.beq r.1 1
    · rw [k1, cond_false] at hx hy
      cases k2 : Nat.beq r.1 2
      · rw [k2, cond_false] at hx hy
        cases k3 : Nat.beq r.1 3
        · rw [k3, cond_false] at hx hy
          cases k4 : Nat.beq r.1 4
          · rw [k4, cond_false] at hx hy
            cases (bif_some hx).2
            cases (bif_some hy).2
            rfl
          · rw [k4, cond_true] at hx hy
            exact h4 x y hx hy ix iy
        · rw [k3, cond_true] at hx hy
          exact h3 r.2 x y hx hy
      · rw [k2, cond_true] at hx hy
        split at hx
        · rename_i hh hhe
          rw [hhe] at hy
          dsimp only at hx hy
          exact h2 hh (List.mem_of_getElem? hhe) x y hx hy ix iy
        · cases hx
    · rw [k1, cond_true] at hx hy
      exact h1 r.2 x y hx hy ix iy
  · rw [k0, cond_true] at hx
    cases hx
end
