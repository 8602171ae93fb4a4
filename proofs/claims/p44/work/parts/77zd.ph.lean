section
/-! ===== the planner: writes by hand ===== -/
/-- classes whose ints stand in no coupling: the planner, its rows, the model's rows of tours -/
noncomputable def plG : List Nat := [8, 11, 29, 30, 31, 32, 33, 34, 90, 91, 92]
theorem plg_ck : cpt.all (fun c => c.2.1.all (fun m => !(nmem m.1 plG))) = true := by decide +kernel
theorem plg_cp {t : Nat} {m : Nat × Nat × Nat} (h : m ∈ (cp_at t).2.1) : nmem m.1 plG = false := by
  unfold cp_at at h
  by_cases ht : t < cpt.length
  · rw [List.getD_eq_getElem?_getD, List.getElem?_eq_getElem ht, Option.getD_some] at h
    have h1 := List.all_eq_true.mp (List.all_eq_true.mp plg_ck _ (List.getElem_mem ht)) m h
    cases e : nmem m.1 plG
    · rfl
    · rw [e] at h1
      cases h1
  · rw [List.getD_eq_getElem?_getD, List.getElem?_eq_none (by omega)] at h
    cases h
/-- a row of ints: its class, its length, the range of its entries -/
noncomputable def PlR (c n lo hi : Nat) : Prop := ((arrI c n = true ∧ cdk c = 20) ∧ (ct_at c 0 = some (0, lo, hi) ∧ (Nat.beq (cdm c) 0 = false ∧ c < 1000))) ∧ nmem c plG = true
theorem pr_29 : PlR 29 7 0 4294967295 := by unfold PlR; decide +kernel
theorem pr_30 : PlR 30 42 0 4294967295 := by unfold PlR; decide +kernel
theorem pr_31 : PlR 31 384 0 4294967295 := by unfold PlR; decide +kernel
theorem pr_32 : PlR 32 64 0 4294967295 := by unfold PlR; decide +kernel
theorem pr_33 : PlR 33 3 2147483648 2147483711 := by unfold PlR; decide +kernel
theorem pr_34 : PlR 34 3 2147483648 2147483711 := by unfold PlR; decide +kernel
theorem pr_90 : PlR 90 64 0 4294967295 := by unfold PlR; decide +kernel
theorem pr_91 : PlR 91 64 0 4294967295 := by unfold PlR; decide +kernel
theorem pr_92 : PlR 92 6 2147483648 2147483653 := by unfold PlR; decide +kernel
theorem pl_c : ((cdm 8 = 0 ∧ cdk 8 = 8) ∧ (cdm 11 = 0 ∧ cdk 11 = 11)) ∧ (((ct_at 8 2 = some (0, 0, 4294967295) ∧ ct_at 8 3 = some (0, 2147483648, 2147483651)) ∧ (ct_at 11 62 = some (0, 2147483648, 2147483711) ∧ (ct_at 11 63 = some (0, 2147483648, 2147483711) ∧ ct_at 11 64 = some (0, 2147483648, 2147483711)))) ∧ (nmem 8 plG = true ∧ nmem 11 plG = true)) := by decide +kernel
theorem pl_t : ((ct_at 8 4 = some (7, 29, 0) ∧ (ct_at 8 5 = some (7, 30, 0) ∧ ct_at 8 6 = some (7, 31, 0))) ∧ (ct_at 8 7 = some (7, 32, 0) ∧ (ct_at 8 8 = some (7, 33, 0) ∧ ct_at 8 9 = some (7, 34, 0)))) ∧ (ct_at 11 59 = some (7, 90, 0) ∧ (ct_at 11 60 = some (7, 91, 0) ∧ ct_at 11 61 = some (7, 92, 0))) := by decide +kernel
theorem ct_any {c b : Nat} (hm : Nat.beq (cdm c) 0 = false) : ct_at c b = ct_at c 0 := by
  unfold ct_at
  rw [hm, cond_false, cond_false]
/-- places that the planner's methods of both sides write -/
noncomputable def XP (c p : Nat) : Prop := (29 ≤ c ∧ c ≤ 34) ∨ ((90 ≤ c ∧ c ≤ 92) ∨ ((c = 8 ∧ (p = 2 ∨ p = 3)) ∨ (c = 11 ∧ (62 ≤ p ∧ p ≤ 64))))
/-- what stays -/
noncomputable def Frm (ad : AD) (h h' : AH) : Prop := (∀ c i p W, ¬ XP c p → At ad h c i p W → At ad h' c i p W) ∧ ((∀ a k vs, k ≠ 20 → k ≠ 8 → k ≠ 11 → h.1 a = some (k, vs) → h'.1 a = some (k, vs)) ∧ h'.2 = h.2)
/-- one place is new, all others stay -/
noncomputable def One (ad : AD) (h h' : AH) (c p : Nat) (x : Int32) : Prop := (At ad h' c 0 p (.int x) ∧ ∀ c' i' p' W, ¬ (c' = c ∧ (i' = 0 ∧ p' = p)) → At ad h c' i' p' W → At ad h' c' i' p' W) ∧ ((∀ a k vs, k ≠ 20 → k ≠ 8 → k ≠ 11 → h.1 a = some (k, vs) → h'.1 a = some (k, vs)) ∧ h'.2 = h.2)
section
variable {σ : Nat → Nat} {ad : AD} {h h1 h' : AH} {np c a b q k n lo hi j m qp f pc M p : Nat} {ex ho : Nat → Nat → Prop} {vs : List Value} {x y : Int32} {tl : List (Nat × AI)} {L : LV} {S : List Value} {Q : Option Value → AH → Prop} {z : Int}
theorem frm_refl : Frm ad h h := ⟨fun _ _ _ _ _ ha => ha, fun _ _ _ _ _ _ e => e, rfl⟩
theorem frm_trans (a : Frm ad h h1) (b : Frm ad h1 h') : Frm ad h h' := ⟨fun c i p W hx ha => b.1 c i p W hx (a.1 c i p W hx ha), fun q k vs k1 k2 k3 e => b.2.1 q k vs k1 k2 k3 (a.2.1 q k vs k1 k2 k3 e), b.2.2.trans a.2.2⟩
theorem frm_one (o : One ad h h' c p x) (hx : XP c p) : Frm ad h h' := ⟨fun c' i' p' W hn ha => o.1.2 c' i' p' W (fun e => hn (by rw [e.1, e.2.2]; exact hx)) ha, o.2⟩
/-- an int of an object that stands in no coupling is written -/
theorem ts_int (hT : TS ad h np ex ho) (hc : c < 1000) (hk29 : cdk c ≤ 29) (hg : nmem c plG = true) (hk12 : k ≠ 12) (hq : ad c a = some q) (hh : h.1 q = some (k, vs)) (hb : b < vs.length) (hct : ct_at c b = some (0, lo, hi)) (hx : lo ≤ i2n x ∧ i2n x ≤ hi) : TS ad (am_set h q (k, vs.set b (.int x))) np ex ho := by
  obtain ⟨t1, t2, t3, t4, t5, t6⟩ := hT
  have hqt : ∀ {c' i' : Nat}, ad c' i' = some q → c' = c ∧ i' = a := fun h' => own_at t2 hq (Or.inl hk29) h'
  have ne_at : ∀ {c' i' p' : Nat} {W : Value}, ¬ (c' = c ∧ (i' = a ∧ p' = b)) → (At ad (am_set h q (k, vs.set b (.int x))) c' i' p' W ↔ At ad h c' i' p' W) := fun hne => at_set_ne t2 hq hk29 hh hne
  refine ⟨?_, t2, t3, ⟨t4.1, t4.2.1, ?_⟩, ?_, ?_⟩
  · intro c' i' q' hc' h'
    obtain ⟨u1, k', ws, u2, u3, u4, u5⟩ := t1 c' i' q' hc' h'
    refine ⟨u1, ?_⟩
    by_cases e : q' = q
    · subst e
      obtain ⟨e1, e2⟩ := hqt h'
      subst e1
      subst e2
      rw [hh] at u2
      cases u2
      refine ⟨k, _, am_at _ _ _, u3, by rw [List.length_set]; exact u4, fun p v hv => ?_⟩
      by_cases ep : p = b
      · subst ep
        rw [List.getElem?_set_self hb] at hv
        cases hv
        exact ⟨_, hct, Or.inl ⟨rfl, x, rfl, hx⟩⟩
      · rw [List.getElem?_set_ne (fun e => ep e.symm)] at hv
        exact u5 p v hv
    · exact ⟨k', ws, (am_ne e).trans u2, u3, u4, u5⟩
  · intro c' p' ty' hc' ht' h5' i' hA
    by_cases e : c' = c ∧ (i' = a ∧ p' = b)
    · obtain ⟨rfl, rfl, rfl⟩ := e
      have := at_fun hA (at_set_eq (h := h) (k := k) hq hb)
      cases this
    · exact t4.2.2 c' p' ty' hc' ht' h5' i' ((ne_at e).mp hA)
  · intro l el ident mx hl ql hql
    obtain ⟨mc, ed, sz, N, g1, g2, g3⟩ := t5 l el ident mx hl ql hql
    have hne : ¬ ql = q := by
      intro e
      subst e
      rw [hh] at g1
      exact hk12 (congrArg (fun o => o.1) (Option.some.inj g1))
    refine ⟨mc, ed, sz, N, (am_ne hne).trans g1, g2, ?_⟩
    rcases g3 with g3 | ⟨bq, us, f1, f2, f3, f4⟩
    · exact Or.inl g3
    · refine Or.inr ⟨bq, us, f1, f2, (am_ne fun e => ?_).trans f3, f4⟩
      rw [e] at f1
      have := (hqt f1).1
      unfold bkc at this
      omega
  · intro t kk ht hex
    refine cpat_cong (fun m m1 W => ?_) (t6 t kk ht hex)
    refine ne_at fun e => ?_
    have := plg_cp m1
    rw [← mplace_1 m kk, e.1, hg] at this
    cases this
theorem one_set (hT : TS ad h np ex ho) (hk29 : cdk c ≤ 29) (hq : ad c 0 = some q) (hh : h.1 q = some (k, vs)) (hk : k = 20 ∨ (k = 8 ∨ k = 11)) (hb : b < vs.length) : One ad h (am_set h q (k, vs.set b (.int x))) c b x := by
  refine ⟨⟨at_set_eq hq hb, fun c' i' p' W hn ha => (at_set_ne hT.2.1 hq hk29 hh hn).mpr ha⟩, fun a' k' vs' k1 k2 k3 e => ?_, rfl⟩
  refine (am_ne fun ea => ?_).trans e
  rw [ea, hh] at e
  have := congrArg (fun o : AO => o.1) (Option.some.inj e)
  dsimp only at this
  omega
/-- an entry of a row is written -/
theorem rl_prow (hT : TS ad h np ex ho) (hP : PlR c n lo hi) (hq : ad c 0 = some q) (hj : j < n) (hn : n < 2147483648) (hx : lo ≤ i2n x ∧ i2n x ≤ hi) (hk : ∀ h', TS ad h' np ex ho → One ad h h' c j x → Rt σ M tl L S h' Q) : Rt σ M ((pc, (11, 0, z)) :: tl) L (.int x :: .int (nI j) :: .ref q :: S) h Q := by
  obtain ⟨⟨⟨p1, p2⟩, p3, p4, p5⟩, p6⟩ := hP
  obtain ⟨l, r1, r2⟩ := row_of hT.1 p1 hq p2 (by omega)
  have hl : j < (l.map Value.int).length := by rw [List.length_map, r2]; exact hj
  have e := nI_nn (show j < 2147483648 by omega)
  refine rl_ast r1 rfl e.1 (by rw [e.2]; exact hl) ?_
  rw [e.2]
  exact hk _ (ts_int hT p5 (by omega) p6 (by omega) hq r1 hl (by rw [ct_any p4]; exact p3) hx) (one_set hT (by omega) hq r1 (Or.inl rfl) hl)
/-- an int of the planner, or of the model, is written -/
theorem rl_pput (hT : TS ad h np ex ho) (hc : c < 1000) (hm : cdm c = 0) (hkd : cdk c = 8 ∨ cdk c = 11) (hg : nmem c plG = true) (hct : ct_at c p = some (0, lo, hi)) (hq : ad c 0 = some q) (hf : (fks f).contains (cdk c) = true) (hfp : fpos f = p) (hfd : dcode (fr f).2.2.1 = 0) (hx : lo ≤ i2n x ∧ i2n x ≤ hi) (hk : ∀ h', TS ad h' np ex ho → One ad h h' c p x → Rt σ M tl L S h' Q) : Rt σ M ((pc, (9, f, z)) :: tl) L (.int x :: .ref q :: S) h Q := by
  obtain ⟨v0, a0, -⟩ := fld hT hc hm hct hq
  obtain ⟨vs, r1, r2⟩ := at_kind hT.1 hc (by omega) a0 hq
  have hl : p < vs.length := (List.getElem?_eq_some_iff.mp r2).1
  refine rl_put r1 hf (by rw [hfp]; exact hl) (by rw [hfd]; rfl) ?_
  rw [hfp]
  exact hk _ (ts_int hT hc (by omega) hg (by omega) hq r1 hl hct hx) (one_set hT (by omega) hq r1 (by omega) hl)
/-- a row of the planner's -/
theorem ra_prow (hT : TS ad h np ex ho) (hq : ad 8 0 = some qp) (hct : ct_at 8 (fpos f) = some (7, c, 0)) (hf : (fks f).contains 8 = true) (hr : ∀ q, ad c 0 = some q → Rt σ M tl L (.ref q :: S) h Q) : Rt σ M ((pc, (8, f, z)) :: tl) L (.ref qp :: S) h Q := by
  obtain ⟨⟨⟨m8, k8⟩, -⟩, -⟩ := pl_c
  obtain ⟨o, h1, h2⟩ := fld_sgl hT (by omega) m8 hct hq
  exact ra_get hT.1 (by omega) (by omega) hq h1 (by rw [k8]; exact hf) (hr o h2)
theorem i2n_full : 0 ≤ i2n x ∧ i2n x ≤ 4294967295 := by
  have := i2n_lt x
  omega
theorem nI_rng (hj : j < 64) : 2147483648 ≤ i2n (nI j) ∧ i2n (nI j) ≤ 2147483711 := by
  rw [nI_ok (by omega)]
  omega
end
end
