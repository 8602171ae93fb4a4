/-! ===== an object made becomes one of a class ===== -/
theorem ct_mem {c p : Nat} {ty : TY} (h : ct_at c p = some ty) : ty ∈ (cd c).2.2 := by
  unfold ct_at at h
  cases hb : Nat.beq (cdm c) 0
  · rw [hb, cond_false] at h
    exact List.mem_of_mem_head? h
  · rw [hb, cond_true] at h
    exact List.mem_of_getElem? h
theorem cd_all {P : CD → Bool} (hP : ctt.all (fun l => l.all P) = true) {c : Nat} {ty : TY} (h : ty ∈ (cd c).2.2) : P (cd c) = true := by
  unfold cd at h ⊢
  by_cases h1 : c / 16 < ctt.length
  · rw [List.getD_eq_getElem?_getD (l := ctt), List.getElem?_eq_getElem h1, Option.getD_some] at h ⊢
    by_cases h3 : c % 16 < (ctt[c / 16]).length
    · rw [List.getD_eq_getElem?_getD, List.getElem?_eq_getElem h3, Option.getD_some]
      exact List.all_eq_true.mp (List.all_eq_true.mp hP _ (List.getElem_mem h1)) _ (List.getElem_mem h3)
    · rw [List.getD_eq_getElem?_getD, List.getElem?_eq_none (by omega)] at h
      cases h
  · have e : ctt.getD (c / 16) [] = [] := by
      rw [List.getD_eq_getElem?_getD, List.getElem?_eq_none (by omega)]
      rfl
    rw [e] at h
    cases h
theorem ck_t5 : ctt.all (fun l => l.all (fun c => Nat.beq c.2.1 0 || c.2.2.all (fun t => !(Nat.beq t.1 5)))) = true := by decide +kernel
theorem ck_5 {c p : Nat} {ty : TY} (h : ct_at c p = some ty) (h5 : ty.1 = 5) : cdm c = 0 := by
  have hm := ct_mem h
  have h1 := cd_all ck_t5 hm
  rcases or2 h1 with k | k
  · exact beqt k
  · have := List.all_eq_true.mp k ty hm
    rw [h5] at this; cases this
theorem ck_ls : lstt.all (fun x => Nat.beq (cdk x.1) 12 && (Nat.ble x.1 999 && Nat.ble x.2.1 999)) = true := by decide +kernel
theorem ck_l {l el ident mx : Nat} (h : (l, el, ident, mx) ∈ lstt) : cdk l = 12 ∧ (l < 1000 ∧ el < 1000) := by
  obtain ⟨h1, h2⟩ := and2 (List.all_eq_true.mp ck_ls _ h)
  obtain ⟨h2, h3⟩ := and2 h2
  have a2 : l ≤ 999 := blet h2
  have a3 : el ≤ 999 := blet h3
  exact ⟨beqt h1, by omega, by omega⟩
theorem dc_cong2 {ad ad' : AD} {h h' : AH} {all : Bool} {kk : Nat} {gv : Nat → Nat} : ∀ {ms ds : List (Nat × Nat × Nat)}, (∀ m, m ∈ ms → ∀ i q, ad (tgc m) i = some q → ad' (tgc m) i = some q) → (∀ m, m ∈ ms → ∀ W, AtM ad h m kk W → AtM ad' h' m kk W) → DC all ad h kk gv ms ds → DC all ad' h' kk gv ms ds := by
  intro ms
  induction ms with
  | nil => intro ds _ _ _; cases ds <;> exact True.intro
  | cons m ms ih =>
    intro ds hu hm hD
    cases ds with
    | nil => exact True.intro
    | cons d ds => exact ⟨fun ha => enok_cong (hm m List.mem_cons_self) (hu m List.mem_cons_self) (hD.1 ha), ih (fun m hm2 => hu m (List.mem_cons_of_mem _ hm2)) (fun m hm2 => hm m (List.mem_cons_of_mem _ hm2)) hD.2⟩
noncomputable def n_find (c : Nat) (o : List (Nat × Nat)) : Option Nat := match o with
  | [] => none
  | q :: r => bif Nat.beq q.1 c then some q.2 else n_find c r
noncomputable def adp (ad : AD) (ra : Nat → Nat) (E : Nat) (o : List (Nat × Nat)) : AD := fun c i => if i = E then (match n_find c o with | some k => some (ra k) | none => ad c i) else ad c i
theorem n_find_mem {c k : Nat} {o : List (Nat × Nat)} (h : n_find c o = some k) : (c, k) ∈ o := by
  induction o with
  | nil => cases h
  | cons q r ih =>
    unfold n_find at h
    cases hb : Nat.beq q.1 c
    · rw [hb, cond_false] at h; exact List.mem_cons_of_mem _ (ih h)
    · rw [hb, cond_true] at h
      have e : q = (c, k) := Prod.ext (beqt hb) (Option.some.inj h)
      rw [e]; exact List.mem_cons_self
theorem n_find_none {c : Nat} {o : List (Nat × Nat)} (h : n_find c o = none) : ∀ k, (c, k) ∉ o := by
  induction o with
  | nil => intro k hk; cases hk
  | cons q r ih =>
    unfold n_find at h
    cases hb : Nat.beq q.1 c
    · rw [hb, cond_false] at h
      intro k hk
      rcases List.mem_cons.mp hk with e | hk
      · rw [← e] at hb; exact absurd rfl (beqf hb)
      · exact ih h k hk
    · rw [hb, cond_true] at h; cases h
theorem dis_cons {q : Nat × Nat} {r : List (Nat × Nat)} (h : pb_dis (q :: r) = true) : (∀ p, p ∈ r → p.1 ≠ q.1 ∧ p.2 ≠ q.2) ∧ pb_dis r = true := by
  unfold pb_dis at h
  cases hb : r.any (fun p => Nat.beq p.1 q.1 || Nat.beq p.2 q.2)
  · rw [hb, cond_false] at h
    refine ⟨fun p hp => ?_, h⟩
    have := List.any_eq_false.mp hb p hp
    constructor
    · intro e
      apply this
      rw [e, Nat.beq_refl, Bool.true_or]
    · intro e
      apply this
      rw [e, Nat.beq_refl, Bool.or_true]
  · rw [hb, cond_true] at h; cases h
theorem dis_uni {o : List (Nat × Nat)} (h : pb_dis o = true) : ∀ p p', p ∈ o → p' ∈ o → (p.1 = p'.1 ∨ p.2 = p'.2) → p = p' := by
  induction o with
  | nil => intro p p' hp; cases hp
  | cons q r ih =>
    obtain ⟨h1, h2⟩ := dis_cons h
    intro p p' hp hp' he
    rcases List.mem_cons.mp hp with e1 | g1
    · rcases List.mem_cons.mp hp' with e2 | g2
      · rw [e1, e2]
      · have := h1 p' g2
        rw [e1] at he
        rcases he with e | e
        · exact absurd e.symm this.1
        · exact absurd e.symm this.2
    · rcases List.mem_cons.mp hp' with e2 | g2
      · have := h1 p g1
        rw [e2] at he
        rcases he with e | e
        · exact absurd e this.1
        · exact absurd e this.2
      · exact ih h2 p p' g1 g2 he
theorem n_find_in {c k : Nat} {o : List (Nat × Nat)} (hd : pb_dis o = true) (h : (c, k) ∈ o) : n_find c o = some k := by
  cases e : n_find c o with
  | none => exact absurd h (n_find_none e k)
  | some k' =>
    have := dis_uni hd (c, k) (c, k') h (n_find_mem e) (Or.inl rfl)
    have e2 : k = k' := congrArg Prod.snd this
    rw [e2]
theorem pbh_in {e : SV} {c k : Nat} : ∀ {o : List (Nat × Nat)} {H : List SO}, pb_dis o = true → (c, k) ∈ o → k < H.length → (pb_h e o H)[k]? = some (99, .inr [y_ref c e]) := by
  intro o
  induction o with
  | nil => intro H _ h; cases h
  | cons q r ih =>
    intro H hd h hk
    obtain ⟨h1, h2⟩ := dis_cons hd
    rw [pb_h]
    rcases List.mem_cons.mp h with rfl | h
    · have out : ∀ {o : List (Nat × Nat)} {H : List SO}, (∀ p, p ∈ o → p.2 ≠ k) → (pb_h e o H)[k]? = H[k]? := by
        intro o
        induction o with
        | nil => intro H _; rfl
        | cons p s ih2 =>
          intro H hp
          rw [pb_h, ih2 fun p' hp' => hp p' (List.mem_cons_of_mem _ hp')]
          exact List.getElem?_set_ne (hp p List.mem_cons_self)
      rw [out fun p hp => (h1 p hp).2]
      exact List.getElem?_set_self hk
    · exact ih h2 h (by rw [List.length_set]; exact hk)
theorem pbh_out {e : SV} {k : Nat} : ∀ {o : List (Nat × Nat)} {H : List SO}, (∀ p, p ∈ o → p.2 ≠ k) → (pb_h e o H)[k]? = H[k]? := by
  intro o
  induction o with
  | nil => intro H _; rfl
  | cons p s ih2 =>
    intro H hp
    rw [pb_h, ih2 fun p' hp' => hp p' (List.mem_cons_of_mem _ hp')]
    exact List.getElem?_set_ne (hp p List.mem_cons_self)
theorem pbh_len {e : SV} : ∀ {o : List (Nat × Nat)} {H : List SO}, (pb_h e o H).length = H.length := by
  intro o
  induction o with
  | nil => intro H; rfl
  | cons p s ih => intro H; rw [pb_h, ih, List.length_set]
theorem tv_up {ad ad' : AD} {ty : TY} {i p : Nat} {v : Value} (hc : 2 ≤ ty.1 → ty.2.1 < 1000) (ha : ∀ c i q, c < 1000 → ad c i = some q → ad' c i = some q) (h : TV ad ty i p v) : TV ad' ty i p v := by
  rcases h with h | h | ⟨t, e, h⟩ | ⟨t, e, h0, h⟩ | ⟨t, h⟩ | ⟨t, h⟩ | ⟨t, h⟩ | ⟨t, h⟩ | h
  · exact Or.inl h
  · exact Or.inr (Or.inl h)
  · exact Or.inr (Or.inr (Or.inl ⟨t, e, ref_up (hc (by omega)) ha h⟩))
  · exact Or.inr (Or.inr (Or.inr (Or.inl ⟨t, e, h0, ref_up (hc (by omega)) ha h⟩)))
  · exact Or.inr (Or.inr (Or.inr (Or.inr (Or.inl ⟨t, ref_up (hc (by omega)) ha h⟩))))
  · exact Or.inr (Or.inr (Or.inr (Or.inr (Or.inr (Or.inl ⟨t, h.elim Or.inl fun h => Or.inr (ref_up (hc (by omega)) ha h)⟩)))))
  · exact Or.inr (Or.inr (Or.inr (Or.inr (Or.inr (Or.inr (Or.inl ⟨t, ref_up (hc (by omega)) ha h⟩))))))
  · exact Or.inr (Or.inr (Or.inr (Or.inr (Or.inr (Or.inr (Or.inr (Or.inl ⟨t, ref_up (hc (by omega)) ha h⟩)))))))
  · exact Or.inr (Or.inr (Or.inr (Or.inr (Or.inr (Or.inr (Or.inr (Or.inr h)))))))
/-- what a list of objects to be published must keep -/
noncomputable def PbOK (ad : AD) (ra : Nat → Nat) (h : AH) (np E c : Nat) (o : List (Nat × Nat)) : Prop := E < 1048576 ∧
  ((∀ a k, (a, k) ∈ o → (a < 1000 ∧ (cdk a ≤ 29 ∧ cdk a ≠ 12)) ∧ (ad a E = none ∧ ((∀ c i, ad c i ≠ some (ra k)) ∧ (ra k < h.2.1 ∧ (∃ vs, h.1 (ra k) = some (cdk a, vs) ∧ (LenOK a vs.length ∧ ∀ p v, vs[p]? = some v → ∃ ty, ct_at a p = some ty ∧ TV (adp ad ra E o) ty E p v)))))) ∧
  ((∀ a k a' k', (a, k) ∈ o → (a', k') ∈ o → ra k = ra k' → a = a') ∧
  ((∀ c0 p ty k, c0 < 1000 → cdm c0 = 0 → ct_at c0 p = some ty → (ty.1 = 4 ∨ ty.1 = 5) → (ty.2.1, k) ∈ o → adp ad ra E o c0 E ≠ none) ∧
  ((∀ t m k, t < np → m ∈ (cp_at t).2.1 → (m.1, k) ∈ o → m.2.1 = 0 ∧ ((m.1 + 1 = (cp_at t).1 ∧ m.1 = c) ∨ ∃ m0 V, m0 ∈ (cp_at t).2.1 ∧ AtM ad h m0 E V)) ∧
  (∀ t k, t < np → (cp_at t).1 ≠ 0 → ((cp_at t).1 - 1, k) ∈ o → (cp_at t).1 = c + 1)))))
section
variable {ad : AD} {ra : Nat → Nat} {h : AH} {np E c : Nat} {o : List (Nat × Nat)} {ex ho : Nat → Nat → Prop}
theorem adp_old (hP : PbOK ad ra h np E c o) : ∀ c' i q, ad c' i = some q → adp ad ra E o c' i = some q := by
  intro c' i q hq
  unfold adp
  split
  · rename_i e
    split
    · rename_i k hk
      have := (hP.2.1 c' k (n_find_mem hk)).2.1
      rw [e, this] at hq
      cases hq
    · exact hq
  · exact hq
theorem adp_new {c' i q : Nat} (hq : adp ad ra E o c' i = some q) : ad c' i = some q ∨ (i = E ∧ ∃ k, (c', k) ∈ o ∧ q = ra k) := by
  unfold adp at hq
  split at hq
  · rename_i e
    split at hq
    · rename_i k hk
      exact Or.inr ⟨e, k, n_find_mem hk, (Option.some.inj hq).symm⟩
    · exact Or.inl hq
  · exact Or.inl hq
theorem adp_at {a k : Nat} (hd : pb_dis o = true) (hk : (a, k) ∈ o) : adp ad ra E o a E = some (ra k) := by
  unfold adp
  rw [if_pos rfl, n_find_in hd hk]
theorem adp_none {a i : Nat} (hk : ∀ k, (a, k) ∉ o) : adp ad ra E o a i = ad a i := by
  unfold adp
  split
  · cases e : n_find a o with
    | none => rfl
    | some k => exact absurd (n_find_mem e) (hk k)
  · rfl
theorem adp_ne {a i : Nat} (hk : ¬ i = E) : adp ad ra E o a i = ad a i := by
  unfold adp
  rw [if_neg hk]
theorem at_adp {c' i p : Nat} {V : Value} (hP : PbOK ad ra h np E c o) (hA : At ad h c' i p V) : At (adp ad ra E o) h c' i p V := by
  obtain ⟨q, k, vs, a1, a2, a3⟩ := hA
  exact ⟨q, k, vs, adp_old hP _ _ _ a1, a2, a3⟩
theorem at_adp' {c' i p : Nat} {V : Value} (hA : At (adp ad ra E o) h c' i p V) : At ad h c' i p V ∨ (i = E ∧ ∃ k, (c', k) ∈ o) := by
  obtain ⟨q, k, vs, a1, a2, a3⟩ := hA
  rcases adp_new a1 with a1 | ⟨e, k', e1, -⟩
  · exact Or.inl ⟨q, k, vs, a1, a2, a3⟩
  · exact Or.inr ⟨e, k', e1⟩
theorem pub_ts (hT : TS ad h np ex ho) (hP : PbOK ad ra h np E c o) (hd : pb_dis o = true) :
    TS (adp ad ra E o) h np (fun t k => ex t k ∨ (k = E ∧ (cp_at t).1 = c + 1)) (fun a i => ho a i ∨ (i = E ∧ ∃ k, (a, k) ∈ o)) := by
  obtain ⟨t1, t2, t3, ⟨t4, t4b, t4c⟩, t5, t6⟩ := hT
  have mono : ∀ c' i q, c' < 1000 → ad c' i = some q → adp ad ra E o c' i = some q := fun c' i q _ => adp_old hP c' i q
  have P1 := hP.2.1
  refine ⟨?_, ?_, ?_, ⟨?_, ?_, ?_⟩, ?_, ?_⟩
  · intro c' i q hc' hq
    rcases adp_new hq with hq | ⟨rfl, k, hk, rfl⟩
    · obtain ⟨u1, kk, vs, u2, u3, u4, u5⟩ := t1 c' i q hc' hq
      refine ⟨u1, kk, vs, u2, u3, u4, fun p v hv => ?_⟩
      obtain ⟨ty, w1, w2⟩ := u5 p v hv
      exact ⟨ty, w1, tv_up (ty_cls w1) mono w2⟩
    · obtain ⟨-, -, -, -, vs, u2, u4, u5⟩ := P1 c' k hk
      exact ⟨hP.1, cdk c', vs, u2, Or.inl rfl, u4, u5⟩
  · intro c1 i1 c2 i2 q h1 h2
    rcases adp_new h1 with g1 | ⟨e1, k1, hk1, e2⟩
    · rcases adp_new h2 with g2 | ⟨e3, k2, hk2, e4⟩
      · exact t2 c1 i1 c2 i2 q g1 g2
      · rw [e4] at g1
        exact absurd g1 ((P1 c2 k2 hk2).2.2.1 c1 i1)
    · rcases adp_new h2 with g2 | ⟨e3, k2, hk2, e4⟩
      · rw [e2] at g2
        exact absurd g2 ((P1 c1 k1 hk1).2.2.1 c2 i2)
      · exact Or.inl ⟨hP.2.2.1 c1 k1 c2 k2 hk1 hk2 (e2.symm.trans e4), e1.trans e3.symm⟩
  · intro c' i q hq
    rcases adp_new hq with hq | ⟨rfl, k, hk, rfl⟩
    · exact t3 c' i q hq
    · exact (P1 c' k hk).2.2.2.1
  · intro c0 p ty hc0 hm0 hty h45 i q hq
    rcases adp_new hq with hq | ⟨rfl, k, hk, rfl⟩
    · have := t4 c0 p ty hc0 hm0 hty h45 i q hq
      intro e
      cases e2 : ad c0 i with
      | none => exact this e2
      | some q2 => rw [adp_old hP _ _ _ e2] at e; cases e
    · exact hP.2.2.2.1 c0 p ty k hc0 hm0 hty h45 hk
  · intro c' hs
    obtain ⟨q, hq⟩ := t4b c' hs
    exact ⟨q, adp_old hP _ _ _ hq⟩
  · intro c0 p ty hc0 hty h5 i hA
    by_cases hin : i = E ∧ ∃ k, (ty.2.1, k) ∈ o
    · exact Or.inr (Or.inr hin)
    · have e1 : adp ad ra E o ty.2.1 i = ad ty.2.1 i := by
        by_cases e : i = E
        · exact adp_none fun k hk => hin ⟨e, k, hk⟩
        · exact adp_ne e
      rw [e1]
      rcases at_adp' hA with hA | ⟨rfl, k, hk⟩
      · rcases t4c c0 p ty hc0 hty h5 i hA with w | w
        · exact Or.inl w
        · exact Or.inr (Or.inl w)
      · refine Or.inl ?_
        cases e2 : ad ty.2.1 i with
        | none => rfl
        | some q2 =>
          have hm0 : cdm c0 = 0 := by
            cases hz : Nat.beq (cdm c0) 0
            · exfalso
              have := ck_5 hty h5
              exact beqf hz this
            · exact beqt hz
          exact absurd (P1 c0 k hk).2.1 (t4 c0 p ty hc0 hm0 hty (Or.inr h5) i q2 e2)
  · intro l el ident mx hl ql hql
    have hk12 : cdk l = 12 := (ck_l hl).1
    have hql2 : ad l 0 = some ql := by
      rcases adp_new hql with hql | ⟨-, k, hk, -⟩
      · exact hql
      · exact absurd hk12 (P1 l k hk).1.2.2
    obtain ⟨mc, ed, sz, N, g1, g2, g3⟩ := t5 l el ident mx hl ql hql2
    refine ⟨mc, ed, sz, N, g1, g2, ?_⟩
    rcases g3 with ⟨q5, f1, f2⟩ | ⟨bq, us, f1, f2, f3, f4, f5, f6⟩
    · exact Or.inl ⟨q5, adp_old hP _ _ _ f1, f2⟩
    · refine Or.inr ⟨bq, us, adp_old hP _ _ _ f1, f2, f3, f4, f5, fun k hk => ?_⟩
      obtain ⟨u, u1, u2⟩ := f6 k hk
      refine ⟨u, u1, ?_⟩
      have hel : el < 1000 := (ck_l hl).2.2
      rcases u2 with ⟨w1, w2⟩ | ⟨w1, j, w2, w3⟩
      · exact Or.inl ⟨w1, ref_up hel mono w2⟩
      · exact Or.inr ⟨w1, j, w2, ref_up hel mono w3⟩
  · intro t k ht hex
    have hex1 : ¬ ex t k := fun e => hex (Or.inl e)
    have hinb : Inb (adp ad ra E o) (cp_at t).1 k ↔ Inb ad (cp_at t).1 k := by
      unfold Inb
      by_cases h0 : (cp_at t).1 = 0
      · rw [h0]; exact ⟨fun _ => Or.inl rfl, fun _ => Or.inl rfl⟩
      · have e3 : adp ad ra E o ((cp_at t).1 - 1) k = ad ((cp_at t).1 - 1) k := by
          by_cases e : k = E
          · refine adp_none fun kk hk => hex (Or.inr ⟨e, hP.2.2.2.2.2 t kk ht h0 hk⟩)
          · exact adp_ne e
        rw [e3]
    rintro ⟨m, v, m1, m2⟩
    have hgd : ∃ m v, m ∈ (cp_at t).2.1 ∧ AtM ad h m k v := by
      rcases at_adp' m2 with hA | ⟨e1, kk, hk⟩
      · exact ⟨m, v, m1, hA⟩
      · rw [mplace_1] at hk
        obtain ⟨w1, w2⟩ := hP.2.2.2.2.1 t m kk ht m1 hk
        have e2 : (mplace m k).2.1 = k := by
          unfold mplace
          rw [w1]
          rfl
        have ek : k = E := by rw [← e2]; exact e1
        rcases w2 with ⟨w2, w3⟩ | ⟨m0, V, g1, g2⟩
        · exact absurd (Or.inr ⟨ek, by rw [← w3]; exact w2.symm⟩) hex
        · exact ⟨m0, V, g1, by rw [ek]; exact g2⟩
    obtain ⟨c1, c2⟩ := t6 t k ht hex1 hgd
    refine ⟨fun hi => ?_, fun hi => ?_⟩
    · obtain ⟨d, gv, d1, d2⟩ := c1 (hinb.mp hi)
      exact ⟨d, gv, d1, dc_cong2 (fun m _ i q e => adp_old hP _ _ _ e) (fun m m1 W => at_adp hP) d2⟩
    · obtain ⟨d, gv, d1, d2⟩ := c2 fun e => hi (hinb.mpr e)
      exact ⟨d, gv, d1, dc_cong2 (fun m _ i q e => adp_old hP _ _ _ e) (fun m m1 W => at_adp hP) d2⟩
end
