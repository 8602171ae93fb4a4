/-! ===== publishing by the machine ===== -/
section
variable {B : BS} {I : IN} {G G' : SG} {h : AH} {nu' : Nat → Nat}
theorem fwd_ok {v : SV} {V : Value} (hR : RM B I G h) (hv : SVm I (g_h G).length (g_n G) v V) : SVm I (g_h G).length (g_n G) (y_fwd G v) V ∧ ((y_fwd G v).1 = 5 → y_fwd G v = v) := by
  unfold y_fwd
  cases hb : Nat.beq v.1 5
  · rw [cond_false]; exact ⟨hv, fun _ => rfl⟩
  · rw [cond_true]
    split
    · rename_i kd w r hk
      cases h99 : Nat.beq kd 99
      · rw [cond_false]; exact ⟨hv, fun _ => rfl⟩
      · rw [cond_true]
        obtain ⟨-, rfl⟩ := sv_raw hv (beqt hb)
        rcases hR.2.1 _ _ hk with ⟨-, w', e1, e2, e3⟩ | ⟨e1, -⟩
        · have e4 := Sum.inr.inj e1
          injection e4 with e5 e6
          rw [e5]
          refine ⟨e3, fun e => ?_⟩
          have := tag_T e2
          omega
        · have := beqt h99
          dsimp only at e1
          omega
    · exact ⟨hv, fun _ => rfl⟩
theorem fit_ok {v : SV} {lo hi : Nat} {X : Int32} (hg : GK I.1 G) (hv : IV I.1 (g_n G) v X) (hf : y_fitI G v lo hi = true) : lo ≤ i2n X ∧ i2n X ≤ hi := by
  obtain ⟨-, ov, ev⟩ := hv
  have bv := itv_ok hg.1 v
  rw [ev]
  obtain ⟨h1, h2⟩ := and2 hf
  constructor
  · cases hb : Nat.ble lo (itv G v).1
    · rw [hb, cond_false] at h1
      have := y_le_ok hg sk_okn ov h1
      rw [sk_val] at this
      omega
    · have := blet hb
      omega
  · cases hb : Nat.ble (itv G v).2 hi
    · rw [hb, cond_false] at h2
      have := y_le_ok hg ov sk_okn h2
      rw [sk_val] at this
      omega
    · have := blet hb
      omega
theorem chk_get : ∀ {ts : List TY} {l : List SV}, pb_chk G ts l = true → ts.length = l.length ∧ ∀ (f : Nat) (ty : TY) (v : SV), ts[f]? = some ty → l[f]? = some v → pb_ok G (y_fwd G v) ty = true := by
  intro ts
  induction ts with
  | nil =>
    intro l hc
    cases l with
    | nil => exact ⟨rfl, fun f ty v h => by cases h⟩
    | cons => cases hc
  | cons t ts ih =>
    intro l hc
    cases l with
    | nil => cases hc
    | cons v l =>
      unfold pb_chk at hc
      obtain ⟨h1, h2⟩ := bifb hc
      obtain ⟨i1, i2⟩ := ih h2
      refine ⟨by rw [List.length_cons, List.length_cons, i1], fun f ty v' ht hv => ?_⟩
      cases f with
      | zero => cases ht; cases hv; exact h1
      | succ f => exact i2 f ty v' ht hv
theorem own_get {a k : Nat} : ∀ {ts : List TY} {l : List SV}, (a, k) ∈ pb_own ts l → ∃ (f : Nat) (ty : TY) (v : SV), ts[f]? = some ty ∧ (l[f]? = some v ∧ (ty.1 = 4 ∧ (ty.2.1 = a ∧ v.2.1 = k))) := by
  intro ts
  induction ts with
  | nil => intro l h; cases l <;> cases h
  | cons t ts ih =>
    intro l h
    cases l with
    | nil => cases h
    | cons v l =>
      unfold pb_own at h
      cases hb : Nat.beq t.1 4
      · rw [hb, cond_false] at h
        obtain ⟨f, ty, v', h1, h2, h3⟩ := ih h
        exact ⟨f + 1, ty, v', h1, h2, h3⟩
      · rw [hb, cond_true] at h
        rcases List.mem_cons.mp h with e | h
        · have e1 := congrArg Prod.fst e
          have e2 := congrArg Prod.snd e
          exact ⟨0, t, v, rfl, rfl, beqt hb, e1.symm, e2.symm⟩
        · obtain ⟨f, ty, v', h1, h2, h3⟩ := ih h
          exact ⟨f + 1, ty, v', h1, h2, h3⟩
theorem own_put : ∀ {ts : List TY} {l : List SV} {f : Nat} {ty : TY} {v : SV}, ts[f]? = some ty → l[f]? = some v → ty.1 = 4 → (ty.2.1, v.2.1) ∈ pb_own ts l := by
  intro ts
  induction ts with
  | nil => intro l f ty v h; cases h
  | cons t ts ih =>
    intro l f ty v h1 h2 h3
    cases l with
    | nil => cases h2
    | cons u l =>
      unfold pb_own
      cases f with
      | zero =>
        cases h1; cases h2
        rw [h3]
        exact List.mem_cons_self
      | succ f =>
        have := ih (l := l) (f := f) h1 h2 h3
        cases hb : Nat.beq t.1 4
        · exact this
        · exact List.mem_cons_of_mem _ this
theorem cells_get {c : Nat} {e : SV} {x : CE} : ∀ {ts : List TY} {l : List SV} {f : Nat} {C : List CE}, x ∈ pb_cells G c e f ts l C → x ∈ C ∨ ∃ (g : Nat) (ty : TY) (v : SV), ts[g]? = some ty ∧ (l[g]? = some v ∧ (ty.1 ≠ 4 ∧ x = (c, e, sk (f + g + 2147483648), y_fwd G v))) := by
  intro ts
  induction ts with
  | nil => intro l f C h; cases l <;> exact Or.inl h
  | cons t ts ih =>
    intro l f C h
    cases l with
    | nil => exact Or.inl h
    | cons v l =>
      unfold pb_cells at h
      cases hb : Nat.beq t.1 4
      · rw [hb, cond_false] at h
        rcases ih h with h | ⟨g, ty, v', h1, h2, h3, h4⟩
        · rcases List.mem_cons.mp h with h | h
          · exact Or.inr ⟨0, t, v, rfl, rfl, beqf hb, h⟩
          · exact Or.inl h
        · exact Or.inr ⟨g + 1, ty, v', h1, h2, h3, by rw [h4, show f + 1 + g = f + (g + 1) by omega]⟩
      · rw [hb, cond_true] at h
        rcases ih h with h | ⟨g, ty, v', h1, h2, h3, h4⟩
        · exact Or.inl h
        · exact Or.inr ⟨g + 1, ty, v', h1, h2, h3, by rw [h4, show f + 1 + g = f + (g + 1) by omega]⟩
theorem del_mem {c : Nat} {x : CE} : ∀ {l : List CE}, x ∈ cnt_del c l → x ∈ l ∧ (x.1 = c → x.2.2.1.1 ≠ 8) := by
  intro l
  induction l with
  | nil => intro h; cases h
  | cons q r ih =>
    intro h
    unfold cnt_del at h
    cases hb : Nat.beq q.1 c && Nat.beq q.2.2.1.1 8
    · rw [hb, cond_false] at h
      rcases List.mem_cons.mp h with e | h
      · refine ⟨by rw [e]; exact List.mem_cons_self, fun h1 h2 => ?_⟩
        rw [e] at h1 h2
        rw [h1, h2, Nat.beq_refl, Nat.beq_refl] at hb
        cases hb
      · exact ⟨List.mem_cons_of_mem _ (ih h).1, (ih h).2⟩
    · rw [hb, cond_true] at h
      exact ⟨List.mem_cons_of_mem _ (ih h).1, (ih h).2⟩
theorem dels_mem {x : CE} : ∀ {o : List (Nat × Nat)} {l : List CE}, x ∈ cnt_dels o l → x ∈ l ∧ ∀ k, (x.1, k) ∈ o → x.2.2.1.1 ≠ 8 := by
  intro o
  induction o with
  | nil => intro l h; exact ⟨h, fun k hk => by cases hk⟩
  | cons q r ih =>
    intro l h
    obtain ⟨h1, h2⟩ := ih h
    obtain ⟨h3, h4⟩ := del_mem h1
    refine ⟨h3, fun k hk => ?_⟩
    rcases List.mem_cons.mp hk with e | hk
    · exact h4 (congrArg Prod.fst e)
    · exact h2 k hk
theorem rng_200 {c : Nat} {p : Nat → Bool} (h : (List.range 200).all p = true) (hc : c < 200) : p c = true := List.all_eq_true.mp h c (List.mem_range.mpr hc)
theorem ck_200 : Nat.ble ctt.length 12 = true := by decide +kernel
theorem cdn_200 {c : Nat} {ty : TY} (h : ty ∈ (cd c).2.2) : c < 200 := by
  by_cases hc : c < 200
  · exact hc
  · have h1 := blet ck_200
    have e : ctt.getD (c / 16) [] = [] := by
      rw [List.getD_eq_getElem?_getD, List.getElem?_eq_none (by omega)]
      rfl
    unfold cd at h
    rw [e] at h
    cases h
theorem own_by_ok {a c0 c p : Nat} {ty : TY} (h : own_by a c0 = true) (ht : ct_at c p = some ty) (h45 : ty.1 = 4 ∨ ty.1 = 5) (ha : ty.2.1 = a) : c = c0 := by
  have hm := ct_mem ht
  have h1 := rng_200 h (cdn_200 hm)
  cases hb : Nat.beq c c0
  · rw [hb, cond_false] at h1
    have h2 := List.all_eq_true.mp h1 ty hm
    exfalso
    rw [ha, Nat.beq_refl, Bool.and_true] at h2
    rcases h45 with e | e <;> (rw [e] at h2; cases h2)
  · exact beqt hb
theorem t5_get {a q : Nat} : ∀ {ts : List TY} {p f : Nat} {ty : TY}, t5_ok a q p ts = true → ts[f]? = some ty → ty.1 = 5 → ty.2.1 = a → p + f = q := by
  intro ts
  induction ts with
  | nil => intro p f ty _ h; cases h
  | cons t ts ih =>
    intro p f ty h h1 h2 h3
    unfold t5_ok at h
    obtain ⟨g1, g2⟩ := bifb h
    cases f with
    | zero =>
      cases h1
      rw [h2, h3, Nat.beq_refl, Nat.beq_refl] at g1
      exact beqt g1
    | succ f =>
      have := ih g2 (f := f) h1 h2 h3
      omega
theorem n5x_ok {a c5 p5 c p : Nat} {ty : TY} (h : n5x a c5 p5 = true) (ht : ct_at c p = some ty) (h5 : ty.1 = 5) (ha : ty.2.1 = a) (hp : p < 99999) : c = c5 ∧ p = p5 := by
  have hm := ct_mem ht
  have h1 := rng_200 h (cdn_200 hm)
  have h0 := ck_5 ht h5
  unfold ct_at at ht
  rw [h0] at ht
  have ht2 : (cd c).2.2[p]? = some ty := ht
  have h2 := t5_get h1 ht2 h5 ha
  cases hb : Nat.beq c c5
  · rw [hb, cond_false] at h2; omega
  · rw [hb, cond_true] at h2
    exact ⟨beqt hb, by omega⟩
theorem rm_ho {b : AD × AH} {ho ho' : Nat → Nat → Prop} (hR : RM (b, ho) I G h) (hh : ∀ c p ty, ct_at c p = some ty → ty.1 = 5 → ∀ i, At I.2.2 h c i p .null → ho ty.2.1 i → I.2.2 ty.2.1 i = none ∨ ho' ty.2.1 i) : RM (b, ho') I G h := by
  obtain ⟨hg, hH, hRa, ⟨t1, t2, t3, ⟨t4, t4b, t4c⟩, t5, t6⟩, hX, hC, hS⟩ := hR
  refine ⟨hg, hH, hRa, ⟨t1, t2, t3, ⟨t4, t4b, fun c p ty hc ht h5 i hA => ?_⟩, t5, t6⟩, hX, hC, hS⟩
  rcases t4c c p ty hc ht h5 i hA with w | w
  · exact Or.inl w
  · exact hh c p ty ht h5 i hA w
end
