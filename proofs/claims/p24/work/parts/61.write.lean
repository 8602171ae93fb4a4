/-! ===== a place of a class's object is written ===== -/
section
variable {B : BS} {I : IN} {G G' : SG} {h : AH} {nu' : Nat → Nat} {c a b q k : Nat} {vs : List Value} {V : Value}
theorem am_at (h : AH) (q : Nat) (o : AO) : (am_set h q o).1 q = some o := if_pos rfl
theorem am_ne {h : AH} {q j : Nat} {o : AO} (e : ¬ j = q) : (am_set h q o).1 j = h.1 j := if_neg e
/-- one class's object alone lies at an address, tables aside -/
theorem own_at {ad : AD} (h2 : T2 ad) (hq : ad c a = some q) (hk : cdk c ≤ 29 ∨ 1000 ≤ c) {c' i' : Nat} (h' : ad c' i' = some q) : c' = c ∧ i' = a := by
  rcases h2 c' i' c a q h' hq with e | ⟨-, e⟩
  · exact e
  · omega
theorem at_set_ne {ad : AD} (h2 : T2 ad) (hq : ad c a = some q) (hk : cdk c ≤ 29) (hh : h.1 q = some (k, vs)) {c' i' p' : Nat} {W : Value} (hne : ¬ (c' = c ∧ (i' = a ∧ p' = b))) : At ad (am_set h q (k, vs.set b V)) c' i' p' W ↔ At ad h c' i' p' W := by
  constructor
  · rintro ⟨q', k', vs', a1, a2, a3⟩
    by_cases e : q' = q
    · subst e
      obtain ⟨e1, e2⟩ := own_at h2 hq (Or.inl hk) a1
      rw [am_at] at a2
      cases a2
      refine ⟨q', k, vs, a1, hh, ?_⟩
      rw [List.getElem?_set_ne (fun e3 => hne ⟨e1, e2, e3.symm⟩)] at a3
      exact a3
    · rw [am_ne e] at a2
      exact ⟨q', k', vs', a1, a2, a3⟩
  · rintro ⟨q', k', vs', a1, a2, a3⟩
    by_cases e : q' = q
    · subst e
      obtain ⟨e1, e2⟩ := own_at h2 hq (Or.inl hk) a1
      rw [hh] at a2
      cases a2
      refine ⟨q', k, vs.set b V, a1, am_at _ _ _, ?_⟩
      rw [List.getElem?_set_ne (fun e3 => hne ⟨e1, e2, e3.symm⟩)]
      exact a3
    · exact ⟨q', k', vs', a1, (am_ne e).trans a2, a3⟩
theorem at_set_eq {ad : AD} (hq : ad c a = some q) (hb : b < vs.length) : At ad (am_set h q (k, vs.set b V)) c a b V := ⟨q, k, vs.set b V, hq, am_at _ _ _, List.getElem?_set_self hb⟩
theorem enok_cong {ad ad' : AD} {h h' : AH} {kk : Nat} {gv : Nat → Nat} {m d : Nat × Nat × Nat} (hw : ∀ W, AtM ad h m kk W → AtM ad' h' m kk W) (hup : ∀ i q, ad (tgc m) i = some q → ad' (tgc m) i = some q) (hE : EnOK ad h kk gv m d) : EnOK ad' h' kk gv m d := by
  unfold EnOK at hE ⊢
  cases b0 : Nat.ble d.1 99
  · rw [b0, cond_false] at hE
    rw [cond_false]
    cases b1 : Nat.ble d.1 299
    · rw [b1, cond_false] at hE
      rw [cond_false]
      cases b3 : Nat.beq d.1 300
      · rw [b3, cond_false] at hE
        rw [cond_false]
        cases b4 : Nat.beq d.1 400
        · rw [b4, cond_false] at hE
          rw [cond_false]
          cases b6 : Nat.beq d.1 600
          · rw [cond_false]; exact True.intro
          · rw [b6, cond_true] at hE
            rw [cond_true]
            obtain ⟨x, x1, x2⟩ := hE
            exact ⟨x, hw _ x1, x2⟩
        · rw [b4, cond_true] at hE
          rw [cond_true]
          obtain ⟨q, x1, x2⟩ := hE
          exact ⟨q, hw _ x1, hup _ _ x2⟩
      · rw [b3, cond_true] at hE
        rw [cond_true]
        exact hw _ hE
    · rw [b1, cond_true] at hE
      rw [cond_true]
      obtain ⟨j, q, x1, x2, x3⟩ := hE
      exact ⟨j, q, hw _ x1, hup _ _ x2, x3⟩
  · rw [b0, cond_true] at hE
    rw [cond_true]
    obtain ⟨x, x1, x2⟩ := hE
    exact ⟨x, hw _ x1, x2⟩
theorem dc_cong {ad : AD} {h' : AH} {all : Bool} {kk : Nat} {gv : Nat → Nat} : ∀ {ms ds : List (Nat × Nat × Nat)}, (∀ m, m ∈ ms → ∀ W, AtM ad h m kk W → AtM ad h' m kk W) → DC all ad h kk gv ms ds → DC all ad h' kk gv ms ds := by
  intro ms
  induction ms with
  | nil => intro ds _ _; cases ds <;> exact True.intro
  | cons m ms ih =>
    intro ds hm hD
    cases ds with
    | nil => exact True.intro
    | cons d ds => exact ⟨fun ha => enok_cong (hm m List.mem_cons_self) (fun _ _ e => e) (hD.1 ha), ih (fun m hm2 => hm m (List.mem_cons_of_mem _ hm2)) hD.2⟩
theorem cpat_cong {ad : AD} {h' : AH} {t kk : Nat} (hm : ∀ m, m ∈ (cp_at t).2.1 → ∀ W, AtM ad h' m kk W ↔ AtM ad h m kk W) (hC : CpAt ad h t kk) : CpAt ad h' t kk := by
  rintro ⟨m, v, m1, m2⟩
  obtain ⟨c1, c2⟩ := hC ⟨m, v, m1, (hm m m1 v).mp m2⟩
  refine ⟨fun hi => ?_, fun hi => ?_⟩
  · obtain ⟨d, gv, d1, d2⟩ := c1 hi
    exact ⟨d, gv, d1, dc_cong (fun m m1 W => (hm m m1 W).mpr) d2⟩
  · obtain ⟨d, gv, d1, d2⟩ := c2 hi
    exact ⟨d, gv, d1, dc_cong (fun m m1 W => (hm m m1 W).mpr) d2⟩
theorem x_open_sub {i j : SV} {X : List (Nat × SV)} : ∀ {ts : List Nat} {x : Nat × SV}, x ∈ x_open c i j X ts → x ∈ X ∨ ∃ t, t ∈ ts ∧ cp_mem (cp_at t).2.1 c i j = some x.2 := by
  intro ts
  induction ts generalizing X with
  | nil => intro x hx; exact Or.inl hx
  | cons t r ih =>
    intro x hx
    rw [x_open] at hx
    split at hx
    · rcases ih hx with h | ⟨t', h1, h2⟩
      · exact Or.inl h
      · exact Or.inr ⟨t', List.mem_cons_of_mem _ h1, h2⟩
    · rename_i e he
      rcases ih hx with h | ⟨t', h1, h2⟩
      · rcases List.mem_cons.mp h with rfl | h
        · exact Or.inr ⟨t, List.mem_cons_self, he⟩
        · exact Or.inl h
      · exact Or.inr ⟨t', List.mem_cons_of_mem _ h1, h2⟩
theorem x_open_old {i j : SV} {x : Nat × SV} : ∀ {ts : List Nat} {X : List (Nat × SV)}, x ∈ X → x ∈ x_open c i j X ts := by
  intro ts
  induction ts with
  | nil => intro X hx; exact hx
  | cons t r ih =>
    intro X hx
    rw [x_open]
    split
    · exact ih hx
    · exact ih (List.mem_cons_of_mem _ hx)
theorem x_open_new {i j : SV} {t : Nat} {e : SV} (he : cp_mem (cp_at t).2.1 c i j = some e) : ∀ {ts : List Nat} {X : List (Nat × SV)}, t ∈ ts → (t, e) ∈ x_open c i j X ts := by
  intro ts
  induction ts with
  | nil => intro X ht; cases ht
  | cons t' r ih =>
    intro X ht
    rw [x_open]
    rcases List.mem_cons.mp ht with rfl | ht
    · rw [he]
      exact x_open_old List.mem_cons_self
    · split
      · exact ih ht
      · exact ih ht
theorem cp_mem_some {i j : SV} : ∀ {l : List (Nat × Nat × Nat)} {m : Nat × Nat × Nat}, m ∈ l → m.1 = c → (m.2.1 = 0 → cst j m.2.2 = true) → (m.2.1 ≠ 0 → cst i m.2.2 = true) → ∃ e, cp_mem l c i j = some e := by
  intro l
  induction l with
  | nil => intro m hm; cases hm
  | cons m' r ih =>
    intro m hm h1 h2 h3
    unfold cp_mem
    cases e1 : Nat.beq m'.1 c
    · rw [cond_false]
      rcases List.mem_cons.mp hm with rfl | hm
      · exact absurd h1 (beqf e1)
      · exact ih hm h1 h2 h3
    · rw [cond_true]
      cases e2 : Nat.beq m'.2.1 0
      · rw [cond_false]
        cases e3 : cst i m'.2.2
        · rw [cond_false]
          rcases List.mem_cons.mp hm with rfl | hm
          · rw [h3 (beqf e2)] at e3; cases e3
          · exact ih hm h1 h2 h3
        · exact ⟨_, rfl⟩
      · rw [cond_true]
        cases e3 : cst j m'.2.2
        · rw [cond_false]
          rcases List.mem_cons.mp hm with rfl | hm
          · rw [h2 (beqt e2)] at e3; cases e3
          · exact ih hm h1 h2 h3
        · exact ⟨_, rfl⟩
theorem cst_val {nu : Nat → Nat} {j : SV} {q : Nat} (h : cst j q = true) : sval nu j = q := by
  obtain ⟨h1, h2⟩ := and2 h
  unfold sval isN
  rw [beqt h1]
  exact beqt h2
theorem mplace_1 (m : Nat × Nat × Nat) (kk : Nat) : (mplace m kk).1 = m.1 := by
  unfold mplace
  cases Nat.beq m.2.1 0
  · rw [cond_false]
  · rw [cond_true]
/-- a written place's couplings stand open -/
theorem opened {np : Nat} {nu : Nat → Nat} {i j : SV} {X : List (Nat × SV)} {t kk : Nat} {m : Nat × Nat × Nat} (ht : t < np) (hm : m ∈ (cp_at t).2.1) (he : mplace m kk = (c, a, b)) (hi : sval nu i = 2147483648 + a) (hj : sval nu j = 2147483648 + b) (hjc : cdm c = 0 → j.1 = 0) (hic : cp_cst np c i = true) : ExG nu (x_open c i j X (List.range np)) t kk := by
  obtain ⟨q1, q2, q3, q4, q5⟩ := cp_ok hm
  have hc : m.1 = c := by
    have := congrArg Prod.fst he
    rw [mplace_1] at this
    exact this
  have cs : ∀ {s : SV}, s.1 = 0 → sval nu s = s.2.1 := fun {s} e => by unfold sval isN; rw [e]; rfl
  have key : (m.2.1 = 0 ∧ (kk = a ∧ m.2.2 - 2147483648 = b)) ∨ (m.2.1 ≠ 0 ∧ (kk = b ∧ m.2.2 - 2147483648 = a)) := by
    unfold mplace at he
    cases hb : Nat.beq m.2.1 0
    · rw [hb, cond_false] at he
      have e1 := congrArg (fun x => x.2.1) he
      have e2 := congrArg (fun x => x.2.2) he
      exact Or.inr ⟨beqf hb, e2, e1⟩
    · rw [hb, cond_true] at he
      have e1 := congrArg (fun x => x.2.1) he
      have e2 := congrArg (fun x => x.2.2) he
      exact Or.inl ⟨beqt hb, e1, e2⟩
  have h2 : m.2.1 = 0 → cst j m.2.2 = true := by
    intro e
    rcases key with ⟨-, k1, k2⟩ | ⟨k0, -⟩
    · have j0 := hjc (by rw [← hc]; exact q5.mp e)
      have j1 := cs j0
      unfold cst
      rw [j0, Nat.beq_refl, Bool.true_and]
      have : j.2.1 = m.2.2 := by omega
      rw [this]; exact Nat.beq_refl _
    · exact absurd e k0
  have h3 : m.2.1 ≠ 0 → cst i m.2.2 = true := by
    intro e
    rcases key with ⟨k0, -⟩ | ⟨-, k1, k2⟩
    · exact absurd k0 e
    · have i0 : i.1 = 0 := by
        have w := List.all_eq_true.mp (List.all_eq_true.mp hic t (List.mem_range.mpr ht)) m hm
        rcases or2 w with w | w
        · rw [hc, Nat.beq_refl] at w; cases w
        · rcases or2 w with w | w
          · exact absurd (beqt w) e
          · exact beqt w
      have i1 := cs i0
      unfold cst
      rw [i0, Nat.beq_refl, Bool.true_and]
      have : i.2.1 = m.2.2 := by omega
      rw [this]; exact Nat.beq_refl _
  obtain ⟨e, e1⟩ := cp_mem_some (i := i) (j := j) hm hc h2 h3
  refine ⟨e, x_open_new e1 (List.mem_range.mpr ht), ?_⟩
  obtain ⟨m', n1, n2, n3⟩ := cp_mem_ok e1
  obtain ⟨p1, p2, p3, p4, p5⟩ := cp_ok n1
  rcases key with ⟨k0, k1, k2⟩ | ⟨k0, k1, k2⟩
  · rcases n3 with ⟨-, -, n5⟩ | ⟨n4, -, -⟩
    · rw [n5, hi, k1]
    · exact absurd (p5.mpr (by rw [n2, ← hc]; exact q5.mp k0)) n4
  · rcases n3 with ⟨n4, -, -⟩ | ⟨-, -, n5⟩
    · exact absurd (q5.mpr (by rw [hc, ← n2]; exact p5.mp n4)) k0
    · rw [n5, hj, k1]
theorem code_ok {nu : Nat → Nat} {j : SV} (hj : sval nu j = 2147483648 + b) (hjc : cdm c = 0 → j.1 = 0) : y_code c j = kcode c b := by
  unfold y_code kcode
  cases hb : Nat.beq (cdm c) 0
  · rw [cond_false, cond_false]
  · have j0 := hjc (beqt hb)
    have e : sval nu j = j.2.1 := by unfold sval isN; rw [j0]; rfl
    rw [cond_true, cond_true, show j.2.1 - 2147483648 = b by omega]
theorem cell_del_mem {i j : SV} : ∀ {l : List CE} {x : CE}, x ∈ cell_del G c i j l → x ∈ l ∧ (x.1 = c → x.2.2.1.1 ≤ 7 → (y_sdiff G x.2.1 i = true ∨ y_sdiff G x.2.2.1 j = true)) := by
  intro l
  induction l with
  | nil => intro x hx; cases hx
  | cons y r ih =>
    intro x hx
    rw [cell_del] at hx
    cases hb : (Nat.beq y.1 c && (Nat.ble y.2.2.1.1 7 && !(y_sdiff G y.2.1 i || y_sdiff G y.2.2.1 j))) || px_in y [y_code c j]
    · rw [hb, cond_false] at hx
      rcases List.mem_cons.mp hx with rfl | hx
      · refine ⟨List.mem_cons_self, fun h1 h2 => ?_⟩
        have hb := (Bool.or_eq_false_iff.mp hb).1
        rw [h1, Nat.beq_refl, Nat.ble_eq_true_of_le h2] at hb
        cases h3 : y_sdiff G x.2.1 i
        · cases h4 : y_sdiff G x.2.2.1 j
          · rw [h3, h4] at hb; cases hb
          · exact Or.inr rfl
        · exact Or.inl rfl
      · exact ⟨List.mem_cons_of_mem _ (ih hx).1, (ih hx).2⟩
    · rw [hb, cond_true] at hx
      exact ⟨List.mem_cons_of_mem _ (ih hx).1, (ih hx).2⟩
theorem cell_del_mem2 {i j : SV} : ∀ {l : List CE} {x : CE}, x ∈ cell_del G c i j l → px_in x [y_code c j] = false := by
  intro l
  induction l with
  | nil => intro x hx; cases hx
  | cons y r ih =>
    intro x hx
    rw [cell_del] at hx
    cases hb : (Nat.beq y.1 c && (Nat.ble y.2.2.1.1 7 && !(y_sdiff G y.2.1 i || y_sdiff G y.2.2.1 j))) || px_in y [y_code c j]
    · rw [hb, cond_false] at hx
      rcases List.mem_cons.mp hx with rfl | hx
      · exact (Bool.or_eq_false_iff.mp hb).2
      · exact ih hx
    · rw [hb, cond_true] at hx
      exact ih hx
/-- a place is written -/
theorem wr_ok {i j w : SV} {ty : TY} (hR : RM B I G h) (hc : c < 1000) (hk29 : cdk c ≤ 29) (hk12 : cdk c ≠ 12) (oi : okn (g_n G) i) (oj : okn (g_n G) j) (ii : isI i = true) (ij : isI j = true) (hi : sval I.1 i = 2147483648 + a) (hj : sval I.1 j = 2147483648 + b) (hjc : cdm c = 0 → j.1 = 0) (hic : cp_cst (g_p G) c i = true)
    (hq : I.2.2 c a = some q) (hh : h.1 q = some (k, vs)) (hb : b < vs.length) (hty : ct_at c b = some ty) (hV : TV I.2.2 ty a b V) (hnn : ty.1 = 5 → V ≠ .null) (hw : SVm I (g_h G).length (g_n G) w V) : RM B I (y_set G c i j w) (am_set h q (k, vs.set b V)) := by
  obtain ⟨hg, hH, hRa, ⟨t1, t2, t3, t4, t5, t6⟩, hX, hC, s1, s2, s3, s4, s5, s6, s7⟩ := hR
  have hR0 : RM B I G h := ⟨hg, hH, hRa, ⟨t1, t2, t3, t4, t5, t6⟩, hX, hC, s1, s2, s3, s4, s5, s6, s7⟩
  have ne_at : ∀ {c' i' p' : Nat} {W : Value}, ¬ (c' = c ∧ (i' = a ∧ p' = b)) → (At I.2.2 (am_set h q (k, vs.set b V)) c' i' p' W ↔ At I.2.2 h c' i' p' W) := fun hne => at_set_ne t2 hq hk29 hh hne
  have hqt : ∀ {c' i' : Nat}, I.2.2 c' i' = some q → c' = c ∧ i' = a := fun h' => own_at t2 hq (Or.inl hk29) h'
  refine ⟨hg, ?_, hRa, ⟨?_, t2, t3, ⟨t4.1, t4.2.1, ?_⟩, ?_, ?_⟩, ?_, ?_, ?_, ?_, s3, s4, s5, s6, s7⟩
  · intro kk o ho
    rcases hH kk o ho with h1 | ⟨h1, h2, vs', h3, h4⟩
    · exact Or.inl h1
    · exact Or.inr ⟨h1, h2, vs', (am_ne (fun e => h2 c a (by rw [e]; exact hq))).trans h3, h4⟩
  · intro c' i' q' hc' h'
    obtain ⟨u1, k', vs', u2, u3, u4, u5⟩ := t1 c' i' q' hc' h'
    refine ⟨u1, ?_⟩
    by_cases e : q' = q
    · subst e
      obtain ⟨e1, e2⟩ := hqt h'
      subst e1; subst e2
      rw [hh] at u2
      cases u2
      refine ⟨k, vs.set b V, am_at _ _ _, u3, by rw [List.length_set]; exact u4, fun p v hv => ?_⟩
      by_cases ep : b = p
      · subst ep
        rw [List.getElem?_set_self hb] at hv
        cases hv
        exact ⟨ty, hty, hV⟩
      · rw [List.getElem?_set_ne ep] at hv
        exact u5 p v hv
    · exact ⟨k', vs', (am_ne e).trans u2, u3, u4, u5⟩
  · intro c' p' ty' hc' ht' h5 i' hA
    by_cases e : c' = c ∧ (i' = a ∧ p' = b)
    · obtain ⟨e1, e2, e3⟩ := e
      subst e1; subst e2; subst e3
      rw [hty] at ht'
      cases ht'
      exact absurd (at_fun hA (at_set_eq hq hb)).symm (hnn h5)
    · exact t4.2.2 c' p' ty' hc' ht' h5 i' ((ne_at e).mp hA)
  · intro l el ident mx hl ql hql
    obtain ⟨mc, ed, sz, N, g1, g2, g3⟩ := t5 l el ident mx hl ql hql
    have hne : ¬ ql = q := by
      intro e
      subst e
      obtain ⟨-, k', vs', u2, u3, -⟩ := t1 c a ql hc hq
      rw [g1] at u2
      cases u2
      rcases u3 with u3 | ⟨u3, -⟩
      · exact hk12 u3.symm
      · omega
    refine ⟨mc, ed, sz, N, (am_ne hne).trans g1, g2, ?_⟩
    rcases g3 with g3 | ⟨bq, us, f1, f2, f3, f4⟩
    · exact Or.inl g3
    · refine Or.inr ⟨bq, us, f1, f2, (am_ne fun e => ?_).trans f3, f4⟩
      rw [e] at f1
      have := (hqt f1).1
      unfold bkc at this
      omega
  · intro t kk ht hex
    have hold : ¬ ExG I.1 (g_x G) t kk := fun ⟨e, e1, e2⟩ => hex ⟨e, x_open_old e1, e2⟩
    refine cpat_cong (fun m m1 W => ?_) (t6 t kk ht hold)
    refine ne_at fun ⟨e1, e2, e3⟩ => hex ?_
    exact opened (a := a) (b := b) ht m1 (Prod.ext e1 (Prod.ext e2 e3)) hi hj hjc hic
  · intro x hx
    rcases x_open_sub hx with hx | ⟨t, -, hx⟩
    · exact hX x hx
    · obtain ⟨m, -, -, hx⟩ := cp_mem_ok hx
      rcases hx with ⟨-, -, e⟩ | ⟨-, -, e⟩
      · rw [e]; exact oi
      · rw [e]; exact oj
  · intro x hx
    rcases List.mem_cons.mp hx with rfl | hx
    · exact cell_mk hc oi oj ij hi hj (at_set_eq hq hb) hw
    · obtain ⟨x1, x2⟩ := cell_del_mem hx
      obtain ⟨y1, y2, y3, y4⟩ := hC x x1
      refine ⟨y1, y2, y3, ?_⟩
      rcases y4 with ⟨z1, i', j', V', z2, z3, z4, z5⟩ | z | ⟨z1, z2, z3, i', a', k', vs', z4, z5, z6, z7⟩ | ⟨z1, z2, z3, z4⟩
      · refine Or.inl ⟨z1, i', j', V', z2, z3, (ne_at fun ⟨e1, e2, e3⟩ => ?_).mpr z4, z5⟩
        have ht := tag_I z1
        rcases x2 e1 (by omega) with d | d
        · exact sdiff_ok hR0 y1 oi d (by rw [z2, hi, e2])
        · exact sdiff_ok hR0 y2 oj d (by rw [z3, hj, e3])
      · exact Or.inr (Or.inl z)
      · by_cases e : a' = q
        · subst e
          rw [hh] at z6
          cases z6
          exact Or.inr (Or.inr (Or.inl ⟨z1, z2, z3, i', a', k, vs.set b V, z4, z5, am_at _ _ _, by rw [List.length_set]; exact z7⟩))
        · exact Or.inr (Or.inr (Or.inl ⟨z1, z2, z3, i', a', k', vs', z4, z5, (am_ne e).trans z6, z7⟩))
      · have hno := px_no (cell_del_mem2 hx) z1
        refine Or.inr (Or.inr (Or.inr ⟨z1, z2, z3, px_mono y3 (fun c' i' p W hc' hk' hA => (ne_at fun ⟨e1, e2, e3⟩ => ?_).mpr hA) z4⟩))
        subst e1; subst e3
        exact hno _ hk' (by rw [code_ok hj hjc]; exact List.mem_cons_self)
  · intro q' hq' hno
    have : ¬ q' = q := by
      intro e
      subst e
      rcases s4 c a q' hq with e2 | e2
      · exact hno c a e2
      · omega
    exact (am_ne this).trans (s1 q' hq' hno)
  · intro c' i' q' p hc' h0 hno
    have hno' : kcode c' p ∉ g_k G := fun e => hno (List.mem_cons_of_mem _ e)
    rw [← s2 c' i' q' p hc' h0 hno']
    unfold sl
    by_cases e : q' = q
    · subst e
      obtain ⟨e1, e2⟩ := hqt (s3 c' i' q' hc' h0)
      subst e1
      rw [am_at, hh]
      refine List.getElem?_set_ne fun ep => hno ?_
      rw [← ep, ← code_ok hj hjc]
      exact List.mem_cons_self
    · rw [am_ne e]
end
