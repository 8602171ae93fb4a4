/-! ===== lists, locals, rows and heaps that match ===== -/
noncomputable def qe_LM (A nu : Nat → Nat) (n m : Nat) (l : List qe_SV) (vs : List Value) : Prop := match l, vs with
  | [], [] => True
  | s :: r, v :: t => qe_SVm A nu n m s v ∧ qe_LM A nu n m r t
  | _, _ => False
noncomputable def qe_LVM (A nu : Nat → Nat) (n m : Nat) (l : qe_SLV) (vs : LV) : Prop := match l, vs with
  | [], [] => True
  | p :: r, q :: t => p.1 = q.1 ∧ (qe_SVm A nu n m p.2 q.2 ∧ qe_LVM A nu n m r t)
  | _, _ => False
noncomputable def qe_CM (A nu : Nat → Nat) (n m : Nat) (o : qe_SC) (vs : List Value) : Prop := match o with
  | .inl q => vs.length = q.1 ∧ ∀ v, v ∈ vs → qe_SVm A nu n m q.2 v
  | .inr l => qe_LM A nu n m l vs
noncomputable def qe_KM (k a c : Nat) : Prop := c = a ∨ (k = 6 ∧ (a = 31 ∧ c = 30))
noncomputable def qe_HM (A nu : Nat → Nat) (n m : Nat) (H : List qe_SO) (h : AH) : Prop := ∀ k o, H[k]? = some o → ∃ c vs, h.1 (A k) = some (c, vs) ∧ (qe_KM k o.1 c ∧ (qe_CM A nu n m o.2 vs ∧ (k < 7 → 30 ≤ o.1)))
noncomputable def qe_AOK (A σ : Nat → Nat) (base : Nat) : Prop := (∀ k, k < 7 → A k < base) ∧ ((∀ k, 7 ≤ k → A k = base + (k - 7)) ∧ ∀ i, i < 6 → A i = σ i)
noncomputable def qe_RM (A nu : Nat → Nat) (base : Nat) (hb : (Nat → Option AO) × Nat) (G : qe_SG) (h : AH) : Prop := qe_GK nu G ∧ (qe_HM A nu (qe_g_h G).length (qe_g_n G) (qe_g_h G) h ∧ (7 ≤ (qe_g_h G).length ∧ (h.2.1 = base + ((qe_g_h G).length - 7) ∧ (h.2.2 = hb.2 + qe_g_u G ∧ ∀ q, q < base → h.1 q = hb.1 q))))
noncomputable def qe_Gr (nu : Nat → Nat) (G : qe_SG) (nu' : Nat → Nat) (G' : qe_SG) : Prop := (∀ i, i < qe_g_n G → nu' i = nu i) ∧ (qe_g_n G ≤ qe_g_n G' ∧ (qe_g_h G).length ≤ (qe_g_h G').length)
theorem qe_gr_refl (nu : Nat → Nat) (G : qe_SG) : qe_Gr nu G nu G := ⟨fun _ _ => rfl, Nat.le_refl _, Nat.le_refl _⟩
theorem qe_gr_trans {nu nu' nu'' : Nat → Nat} {G G' G'' : qe_SG} (h : qe_Gr nu G nu' G') (h2 : qe_Gr nu' G' nu'' G'') : qe_Gr nu G nu'' G'' :=
  ⟨fun i hi => (h2.1 i (Nat.lt_of_lt_of_le hi h.2.1)).trans (h.1 i hi), Nat.le_trans h.2.1 h2.2.1, Nat.le_trans h.2.2 h2.2.2⟩
theorem qe_gr_ext {nu nu' : Nat → Nat} {G G' : qe_SG} (h : qe_Ext nu G nu' G') : qe_Gr nu G nu' G' := ⟨h.1, h.2.1, Nat.le_of_eq (by rw [h.2.2.1])⟩
theorem qe_gr_same {nu : Nat → Nat} {G G' : qe_SG} (h : qe_Same nu G G') : qe_Gr nu G nu G' := qe_gr_ext (qe_same_ext h)
theorem qe_nbeq (a b : Nat) : (a == b) = Nat.beq a b := by
  cases h : Nat.beq a b
  · exact beq_false_of_ne (qe_beqf h)
  · rw [qe_beqt h]; exact beq_self_eq_true _
section
variable {A nu : Nat → Nat} {n m : Nat}
theorem qe_lm_len {l : List qe_SV} {vs : List Value} (h : qe_LM A nu n m l vs) : vs.length = l.length := by
  induction l generalizing vs with
  | nil => cases vs with
    | nil => rfl
    | cons => exact h.elim
  | cons s r ih => cases vs with
    | nil => exact h.elim
    | cons v t => rw [List.length_cons, List.length_cons, ih h.2]
theorem qe_lm_cons {s : qe_SV} {r : List qe_SV} {vs : List Value} (h : qe_LM A nu n m (s :: r) vs) : ∃ v t, vs = v :: t ∧ (qe_SVm A nu n m s v ∧ qe_LM A nu n m r t) := by
  cases vs with
  | nil => exact h.elim
  | cons v t => exact ⟨v, t, rfl, h⟩
theorem qe_lm_nil {vs : List Value} (h : qe_LM A nu n m [] vs) : vs = [] := by
  cases vs with
  | nil => rfl
  | cons => exact h.elim
theorem qe_lm_get {l : List qe_SV} {vs : List Value} {i : Nat} {s : qe_SV} (h : qe_LM A nu n m l vs) (hi : l[i]? = some s) : ∃ v, vs[i]? = some v ∧ qe_SVm A nu n m s v := by
  induction l generalizing vs i with
  | nil => exact absurd hi (by intro h; cases h)
  | cons x r ih =>
    obtain ⟨v, t, rfl, h1, h2⟩ := qe_lm_cons h
    cases i with
    | zero => cases hi; exact ⟨v, rfl, h1⟩
    | succ i =>
      obtain ⟨w, g1, g2⟩ := ih (vs := t) (i := i) h2 hi
      exact ⟨w, g1, g2⟩
theorem qe_lm_set {l : List qe_SV} {vs : List Value} {i : Nat} {s : qe_SV} {v : Value} (h : qe_LM A nu n m l vs) (hv : qe_SVm A nu n m s v) : qe_LM A nu n m (l.set i s) (vs.set i v) := by
  induction l generalizing vs i with
  | nil => rw [qe_lm_nil h]; exact True.intro
  | cons x r ih =>
    obtain ⟨w, t, rfl, h1, h2⟩ := qe_lm_cons h
    cases i with
    | zero => exact ⟨hv, h2⟩
    | succ i => exact ⟨h1, ih h2⟩
theorem qe_lm_setl {l : List qe_SV} {vs : List Value} {i : Nat} {s : qe_SV} {v : Value} (h : qe_LM A nu n m l vs) (hi : vs[i]? = some v) (hv : qe_SVm A nu n m s v) : qe_LM A nu n m (l.set i s) vs := by
  induction l generalizing vs i with
  | nil => exact h
  | cons x r ih =>
    obtain ⟨w, t, rfl, h1, h2⟩ := qe_lm_cons h
    cases i with
    | zero => cases hi; exact ⟨hv, h2⟩
    | succ i => exact ⟨h1, ih h2 hi⟩
theorem qe_lm_app {l r : List qe_SV} {vs ws : List Value} (h : qe_LM A nu n m l vs) (h2 : qe_LM A nu n m r ws) : qe_LM A nu n m (l ++ r) (vs ++ ws) := by
  induction l generalizing vs with
  | nil => rw [qe_lm_nil h]; exact h2
  | cons x q ih =>
    obtain ⟨w, t, rfl, h3, h4⟩ := qe_lm_cons h
    exact ⟨h3, ih h4⟩
theorem qe_lm_take {l : List qe_SV} {vs : List Value} (i : Nat) (h : qe_LM A nu n m l vs) : qe_LM A nu n m (l.take i) (vs.take i) := by
  induction l generalizing vs i with
  | nil => rw [qe_lm_nil h, List.take_nil, List.take_nil]; exact True.intro
  | cons x q ih =>
    obtain ⟨w, t, rfl, h3, h4⟩ := qe_lm_cons h
    cases i with
    | zero => exact True.intro
    | succ i => exact ⟨h3, ih i h4⟩
theorem qe_lm_drop {l : List qe_SV} {vs : List Value} (i : Nat) (h : qe_LM A nu n m l vs) : qe_LM A nu n m (l.drop i) (vs.drop i) := by
  induction l generalizing vs i with
  | nil => rw [qe_lm_nil h, List.drop_nil, List.drop_nil]; exact True.intro
  | cons x q ih =>
    obtain ⟨w, t, rfl, h3, h4⟩ := qe_lm_cons h
    cases i with
    | zero => exact ⟨h3, h4⟩
    | succ i => exact ih i h4
theorem qe_lm_rev {l : List qe_SV} {vs : List Value} (h : qe_LM A nu n m l vs) : qe_LM A nu n m l.reverse vs.reverse := by
  induction l generalizing vs with
  | nil => rw [qe_lm_nil h]; exact True.intro
  | cons x q ih =>
    obtain ⟨w, t, rfl, h3, h4⟩ := qe_lm_cons h
    rw [List.reverse_cons, List.reverse_cons]
    exact qe_lm_app (ih h4) ⟨h3, True.intro⟩
theorem qe_lm_rep {s : qe_SV} {v : Value} (h : qe_SVm A nu n m s v) (k : Nat) : qe_LM A nu n m (List.replicate k s) (List.replicate k v) := by
  induction k with
  | zero => exact True.intro
  | succ k ih => exact ⟨h, ih⟩
theorem qe_lm_map {α : Type} {f : α → qe_SV} {g : α → Value} (h : ∀ x, qe_SVm A nu n m (f x) (g x)) (l : List α) : qe_LM A nu n m (l.map f) (l.map g) := by
  induction l with
  | nil => exact True.intro
  | cons x r ih => exact ⟨h x, ih⟩
theorem qe_lm_mem {l : List qe_SV} {vs : List Value} {v : Value} (h : qe_LM A nu n m l vs) (hv : v ∈ vs) : ∃ s, s ∈ l ∧ qe_SVm A nu n m s v := by
  induction l generalizing vs with
  | nil => rw [qe_lm_nil h] at hv; cases hv
  | cons x q ih =>
    obtain ⟨w, t, rfl, h3, h4⟩ := qe_lm_cons h
    rcases List.mem_cons.mp hv with rfl | hv
    · exact ⟨x, List.mem_cons_self, h3⟩
    · obtain ⟨s, h5, h6⟩ := ih h4 hv
      exact ⟨s, List.mem_cons_of_mem _ h5, h6⟩
theorem qe_lm_more {nu' : Nat → Nat} {n' m' : Nat} {l : List qe_SV} {vs : List Value} (h : qe_LM A nu n m l vs) (hn : n ≤ n') (hm : m ≤ m') (hu : ∀ i, i < m → nu' i = nu i) : qe_LM A nu' n' m' l vs := by
  induction l generalizing vs with
  | nil => rw [qe_lm_nil h]; exact True.intro
  | cons x q ih =>
    obtain ⟨w, t, rfl, h3, h4⟩ := qe_lm_cons h
    exact ⟨qe_sv_more h3 hn hm hu, ih h4⟩
theorem qe_lvm_nil {vs : LV} (h : qe_LVM A nu n m [] vs) : vs = [] := by
  cases vs with
  | nil => rfl
  | cons => exact h.elim
theorem qe_lvm_cons {s : Nat × qe_SV} {r : qe_SLV} {vs : LV} (h : qe_LVM A nu n m (s :: r) vs) : ∃ v t, vs = v :: t ∧ (s.1 = v.1 ∧ (qe_SVm A nu n m s.2 v.2 ∧ qe_LVM A nu n m r t)) := by
  cases vs with
  | nil => exact h.elim
  | cons v t => exact ⟨v, t, rfl, h⟩
theorem qe_lvm_more {nu' : Nat → Nat} {n' m' : Nat} {l : qe_SLV} {vs : LV} (h : qe_LVM A nu n m l vs) (hn : n ≤ n') (hm : m ≤ m') (hu : ∀ i, i < m → nu' i = nu i) : qe_LVM A nu' n' m' l vs := by
  induction l generalizing vs with
  | nil => rw [qe_lvm_nil h]; exact True.intro
  | cons x q ih =>
    obtain ⟨w, t, rfl, h3, h4, h5⟩ := qe_lvm_cons h
    exact ⟨h3, qe_sv_more h4 hn hm hu, ih h5⟩
theorem qe_lvm_find {l : qe_SLV} {vs : LV} {i : Nat} {s : qe_SV} (h : qe_LVM A nu n m l vs) (hi : qe_s_find i l = some s) : ∃ v, lv_get i vs = some v ∧ qe_SVm A nu n m s v := by
  induction l generalizing vs with
  | nil => exact absurd hi (by intro h; cases h)
  | cons x q ih =>
    obtain ⟨w, t, rfl, h3, h4, h5⟩ := qe_lvm_cons h
    rw [qe_s_find] at hi
    cases hb : Nat.beq x.1 i
    · rw [hb, cond_false] at hi
      obtain ⟨v, h6, h7⟩ := ih h5 hi
      refine ⟨v, ?_, h7⟩
      unfold lv_get at h6 ⊢
      have e : (w.1 == i) = false := by
        rw [← h3, qe_nbeq]; exact hb
      rw [List.find?_cons]
      rw [e]
      exact h6
    · rw [hb, cond_true] at hi
      have e : (w.1 == i) = true := by
        rw [← h3, qe_nbeq]; exact hb
      cases hi
      refine ⟨w.2, ?_, h4⟩
      unfold lv_get
      rw [List.find?_cons]
      rw [e]
      rfl
theorem qe_sv_cat {s : qe_SV} {v : Value} (h : qe_SVm A nu n m s v) : v.category = qe_s_cat s := by
  unfold qe_s_cat
  cases v with
  | int x => rcases h with ⟨h, _⟩ | ⟨h, _⟩ <;> unfold qe_isL <;> rw [h] <;> rfl
  | long x => rcases h with ⟨h, _⟩ | h <;> unfold qe_isL <;> rw [h] <;> rfl
  | null => have h : s.1 = 4 := h
            unfold qe_isL; rw [h]; rfl
  | ref q => have h := h.1
             unfold qe_isL; rw [h]; rfl
  | _ => exact h.elim
theorem qe_sv_isL {s : qe_SV} {v : Value} (h : qe_SVm A nu n m s v) : (v.category == 2) = qe_isL s := by
  rw [qe_sv_cat h]
  unfold qe_s_cat
  cases qe_isL s <;> rfl
theorem qe_lvm_rm {l : qe_SLV} {vs : LV} (i : Nat) {s : qe_SV} {v : Value} (h : qe_LVM A nu n m l vs) (hv : qe_SVm A nu n m s v) : qe_LVM A nu n m (qe_slv_rm i (qe_isL s) l) (vs.filter (fun q => !(q.1 == i) && (!(v.category == 2 && q.1 == i + 1) && !(q.1 + 1 == i && q.2.category == 2)))) := by
  induction l generalizing vs with
  | nil => rw [qe_lvm_nil h]; exact True.intro
  | cons x q ih =>
    obtain ⟨w, t, rfl, h3, h4, h5⟩ := qe_lvm_cons h
    rw [qe_slv_rm, List.filter_cons]
    have e : (!(w.1 == i) && (!(v.category == 2 && w.1 == i + 1) && !(w.1 + 1 == i && w.2.category == 2))) = !(Nat.beq x.1 i || ((qe_isL s && Nat.beq x.1 (i + 1)) || (Nat.beq (x.1 + 1) i && qe_isL x.2))) := by
      rw [qe_sv_isL hv, qe_sv_isL h4, h3, qe_nbeq, qe_nbeq, qe_nbeq]
      cases Nat.beq w.1 i <;> cases (qe_isL s && Nat.beq w.1 (i + 1)) <;> cases (Nat.beq (w.1 + 1) i && qe_isL x.2) <;> rfl
    rw [e]
    cases (Nat.beq x.1 i || ((qe_isL s && Nat.beq x.1 (i + 1)) || (Nat.beq (x.1 + 1) i && qe_isL x.2)))
    · exact ⟨h3, h4, ih h5⟩
    · exact ih h5
theorem qe_lvm_put {l : qe_SLV} {vs : LV} (i : Nat) {s : qe_SV} {v : Value} (h : qe_LVM A nu n m l vs) (hv : qe_SVm A nu n m s v) : qe_LVM A nu n m (qe_slv_put i s l) (lv_put i v vs) := ⟨rfl, hv, qe_lvm_rm i h hv⟩
theorem qe_lvm_args {l : List qe_SV} {vs : List Value} (i : Nat) (h : qe_LM A nu n m l vs) : qe_LVM A nu n m (qe_s_args i l) (am_args i vs) := by
  induction l generalizing vs i with
  | nil => rw [qe_lm_nil h]; exact True.intro
  | cons x q ih =>
    obtain ⟨w, t, rfl, h3, h4⟩ := qe_lm_cons h
    exact ⟨rfl, h3, ih (i + 1) h4⟩
theorem qe_lm_w {l : List qe_SV} {vs : List Value} (h : qe_LM A nu n m l vs) : am_w vs = qe_S_w l := by
  induction l generalizing vs with
  | nil => rw [qe_lm_nil h]; rfl
  | cons x q ih =>
    obtain ⟨w, t, rfl, h3, h4⟩ := qe_lm_cons h
    have := ih h4
    unfold am_w at this ⊢
    rw [List.map_cons, List.sum_cons, this, qe_sv_cat h3]
    rfl
theorem qe_cm_more {nu' : Nat → Nat} {n' m' : Nat} {o : qe_SC} {vs : List Value} (h : qe_CM A nu n m o vs) (hn : n ≤ n') (hm : m ≤ m') (hu : ∀ i, i < m → nu' i = nu i) : qe_CM A nu' n' m' o vs := by
  cases o with
  | inl q => exact ⟨h.1, fun v hv => qe_sv_more (h.2 v hv) hn hm hu⟩
  | inr l => exact qe_lm_more h hn hm hu
theorem qe_cm_len {o : qe_SC} {vs : List Value} (h : qe_CM A nu n m o vs) : vs.length = qe_so_len o := by
  cases o with
  | inl q => exact h.1
  | inr l => exact qe_lm_len h
theorem qe_hm_more {nu' : Nat → Nat} {n' m' : Nat} {H : List qe_SO} {h : AH} (hh : qe_HM A nu n m H h) (hn : n ≤ n') (hm : m ≤ m') (hu : ∀ i, i < m → nu' i = nu i) : qe_HM A nu' n' m' H h := by
  intro k o hk
  obtain ⟨c, vs, h1, h2, h3, h4⟩ := hh k o hk
  exact ⟨c, vs, h1, h2, qe_cm_more h3 hn hm hu, h4⟩
/-- a row that is known better -/
theorem qe_hm_ref {H : List qe_SO} {h : AH} {k kd c : Nat} {o o' : qe_SC} {vs : List Value} (hh : qe_HM A nu n m H h) (hk : H[k]? = some (kd, o)) (h1 : h.1 (A k) = some (c, vs)) (ho : qe_CM A nu n m o' vs) : qe_HM A nu n m (qe_set_o k (kd, o') H) h := by
  intro j p hj
  by_cases e : k = j
  · subst e
    have hl := (List.getElem?_eq_some_iff.mp hk).1
    rw [qe_set_o, List.getElem?_set_self hl] at hj
    cases hj
    obtain ⟨c', vs', g1, g2, g3, g4⟩ := hh k _ hk
    rw [h1] at g1
    cases g1
    exact ⟨c, vs, h1, g2, ho, g4⟩
  · rw [qe_set_o, List.getElem?_set_ne e] at hj
    exact hh j p hj
theorem qe_a_ne {σ : Nat → Nat} {base k j : Nat} (hA : qe_AOK A σ base) (h7 : 7 ≤ k) (h : k ≠ j) : A j ≠ A k := by
  have h1 := hA.2.1 k h7
  by_cases hj : j < 7
  · have := hA.1 j hj; omega
  · have := hA.2.1 j (by omega); omega
theorem qe_hm_set {σ : Nat → Nat} {base : Nat} {H : List qe_SO} {h : AH} {k kd c : Nat} {o o' : qe_SC} {vs : List Value} (hA : qe_AOK A σ base) (hh : qe_HM A nu n m H h) (hk : H[k]? = some (kd, o)) (h7 : 7 ≤ k) (hc : c = kd) (ho : qe_CM A nu n m o' vs) : qe_HM A nu n m (qe_set_o k (kd, o') H) (am_set h (A k) (c, vs)) := by
  intro j p hj
  by_cases e : k = j
  · subst e
    have hl := (List.getElem?_eq_some_iff.mp hk).1
    rw [qe_set_o, List.getElem?_set_self hl] at hj
    cases hj
    exact ⟨c, vs, if_pos rfl, .inl hc, ho, fun h => absurd h (by omega)⟩
  · rw [qe_set_o, List.getElem?_set_ne e] at hj
    obtain ⟨c', vs', g1, g2⟩ := hh j p hj
    exact ⟨c', vs', (if_neg (qe_a_ne hA h7 e)).trans g1, g2⟩
theorem qe_hm_push {σ : Nat → Nat} {base : Nat} {H : List qe_SO} {h : AH} {kd u : Nat} {o : qe_SC} {vs : List Value} (hA : qe_AOK A σ base) (hh : qe_HM A nu n m H h) (hn : H.length ≤ n) (h7 : 7 ≤ H.length) (hq : h.2.1 = base + (H.length - 7)) (ho : qe_CM A nu (n + 1) m o vs) : qe_HM A nu (n + 1) m (H ++ [(kd, o)]) (am_push h (kd, vs) u) := by
  intro j p hj
  have ea : A H.length = h.2.1 := by rw [hA.2.1 _ h7]; exact hq.symm
  by_cases e : j < H.length
  · rw [List.getElem?_append_left e] at hj
    obtain ⟨c', vs', g1, g2, g3, g4⟩ := hh j p hj
    refine ⟨c', vs', (if_neg ?_).trans g1, g2, qe_cm_more g3 (Nat.le_succ _) (Nat.le_refl _) (fun _ _ => rfl), g4⟩
    rw [← ea]
    exact qe_a_ne hA h7 (by omega)
  · have hj' := (List.getElem?_eq_some_iff.mp hj).1
    rw [List.length_append, List.length_singleton] at hj'
    have : j = H.length := by omega
    subst this
    rw [List.getElem?_append_right (Nat.le_refl _), Nat.sub_self] at hj
    cases hj
    exact ⟨kd, vs, if_pos ea, .inl rfl, ho, fun h => absurd h (by omega)⟩
end
section
variable {A nu : Nat → Nat} {base : Nat} {hb : (Nat → Option AO) × Nat} {G : qe_SG} {h : AH}
theorem qe_rm_ext {nu' : Nat → Nat} {G' : qe_SG} (hr : qe_RM A nu base hb G h) (hg : qe_GK nu' G') (he : qe_Ext nu G nu' G') : qe_RM A nu' base hb G' h := by
  obtain ⟨h1, h2, h3, h4, h5⟩ := hr
  obtain ⟨e1, e2, e3, e4⟩ := he
  refine ⟨hg, ?_, ?_⟩
  · rw [e3]; exact qe_hm_more h2 (Nat.le_refl _) e2 e1
  · rw [e3, e4]; exact ⟨h3, h4, h5⟩
theorem qe_rm_same {G' : qe_SG} (hr : qe_RM A nu base hb G h) (hs : qe_Same nu G G') : qe_RM A nu base hb G' h := qe_rm_ext hr hs.1 (qe_same_ext hs)
end
