/-! ===== locals ===== -/
noncomputable def KN (l : SLV) : Prop := match l with
  | [] => True
  | q :: r => s_find q.1 r = none ∧ KN r
theorem s_hit (i : Nat) (s : SV) (r : SLV) : s_find i ((i, s) :: r) = some s := by rw [s_find, Nat.beq_refl]; rfl
theorem s_miss {i : Nat} {q : Nat × SV} {r : SLV} (h : ¬ q.1 = i) : s_find i (q :: r) = s_find i r := by
  rw [s_find]
  cases hb : Nat.beq q.1 i
  · rfl
  · exact absurd (beqt hb) h
theorem rm_none {a : Nat} {b : Bool} {i : Nat} : ∀ {l : SLV}, s_find i l = none → s_find i (slv_rm a b l) = none := by
  intro l
  induction l with
  | nil => intro h; exact h
  | cons q r ih =>
    intro h
    have hq : ¬ q.1 = i := by
      intro e
      rw [s_find, e, Nat.beq_refl] at h
      cases h
    rw [s_miss hq] at h
    rw [slv_rm]
    cases (Nat.beq q.1 a || ((b && Nat.beq q.1 (a + 1)) || (Nat.beq (q.1 + 1) a && isL q.2)))
    · rw [cond_false, s_miss hq]; exact ih h
    · rw [cond_true]; exact ih h
theorem rm_kn {a : Nat} {b : Bool} : ∀ {l : SLV}, KN l → KN (slv_rm a b l) := by
  intro l
  induction l with
  | nil => intro h; exact h
  | cons q r ih =>
    intro h
    rw [slv_rm]
    cases (Nat.beq q.1 a || ((b && Nat.beq q.1 (a + 1)) || (Nat.beq (q.1 + 1) a && isL q.2)))
    · exact ⟨rm_none h.1, ih h.2⟩
    · exact ih h.2
theorem rm_self {a : Nat} {b : Bool} : ∀ {l : SLV}, s_find a (slv_rm a b l) = none := by
  intro l
  induction l with
  | nil => rfl
  | cons q r ih =>
    rw [slv_rm]
    by_cases e : q.1 = a
    · rw [e, Nat.beq_refl, Bool.true_or, cond_true]; exact ih
    · cases (Nat.beq q.1 a || ((b && Nat.beq q.1 (a + 1)) || (Nat.beq (q.1 + 1) a && isL q.2)))
      · rw [cond_false, s_miss e]; exact ih
      · rw [cond_true]; exact ih
theorem put_kn {a : Nat} {s : SV} {l : SLV} (h : KN l) : KN (slv_put a s l) := ⟨rm_self, rm_kn h⟩
theorem rm_find {a i : Nat} {b : Bool} {t : SV} : ∀ {l : SLV}, KN l → s_find i (slv_rm a b l) = some t → s_find i l = some t ∧ (¬ i = a ∧ (¬ (b = true ∧ i = a + 1) ∧ ¬ (i + 1 = a ∧ isL t = true))) := by
  intro l
  induction l with
  | nil => intro _ h; cases h
  | cons q r ih =>
    intro hk h
    rw [slv_rm] at h
    cases hc : (Nat.beq q.1 a || ((b && Nat.beq q.1 (a + 1)) || (Nat.beq (q.1 + 1) a && isL q.2)))
    · rw [hc, cond_false] at h
      by_cases e : q.1 = i
      · have e2 : q = (i, q.2) := Prod.ext e rfl
        rw [e2, s_hit] at h
        have e3 := Option.some.inj h
        refine ⟨by rw [e2, s_hit]; exact h, ?_⟩
        rw [Bool.or_eq_false_iff, Bool.or_eq_false_iff] at hc
        obtain ⟨c1, c2, c3⟩ := hc
        rw [e] at c1 c2 c3
        rw [e3] at c3
        refine ⟨beqf c1, fun ⟨p1, p2⟩ => ?_, fun ⟨p1, p2⟩ => ?_⟩
        · rw [p1, p2, Nat.beq_refl] at c2; cases c2
        · rw [p1, p2, Nat.beq_refl] at c3; cases c3
      · rw [s_miss e] at h ⊢
        exact ih hk.2 h
    · rw [hc, cond_true] at h
      obtain ⟨i1, i2⟩ := ih hk.2 h
      refine ⟨?_, i2⟩
      have e : ¬ q.1 = i := by
        intro e
        have := hk.1
        rw [e, i1] at this
        cases this
      rw [s_miss e]
      exact i1
theorem lg_filter {a i : Nat} {v w : Value} (h1 : ¬ i = a) (h2 : ¬ (v.category = 2 ∧ i = a + 1)) (h3 : ¬ (i + 1 = a ∧ w.category = 2)) : ∀ {vs : LV}, lv_get i vs = some w → lv_get i (vs.filter (fun q => !(q.1 == a) && (!(v.category == 2 && q.1 == a + 1) && !(q.1 + 1 == a && q.2.category == 2)))) = some w := by
  intro vs
  induction vs with
  | nil => intro h; exact h
  | cons q r ih =>
    intro h
    unfold lv_get at h ih ⊢
    rw [List.find?_cons] at h
    rw [List.filter_cons]
    by_cases e : q.1 = i
    · rw [show (q.1 == i) = true from beq_iff_eq.mpr e] at h
      have e2 : q.2 = w := Option.some.inj h
      have c : (!(q.1 == a) && (!(v.category == 2 && q.1 == a + 1) && !(q.1 + 1 == a && q.2.category == 2))) = true := by
        rw [e, e2]
        have c1 : (i == a) = false := beq_false_of_ne h1
        have c2 : (v.category == 2 && i == a + 1) = false := by
          cases p : (v.category == 2 && i == a + 1)
          · rfl
          · obtain ⟨p1, p2⟩ := and2 p
            exact absurd ⟨beq_iff_eq.mp p1, beq_iff_eq.mp p2⟩ h2
        have c3 : (i + 1 == a && w.category == 2) = false := by
          cases p : (i + 1 == a && w.category == 2)
          · rfl
          · obtain ⟨p1, p2⟩ := and2 p
            exact absurd ⟨beq_iff_eq.mp p1, beq_iff_eq.mp p2⟩ h3
        rw [c1, c2, c3]; rfl
      rw [if_pos c, List.find?_cons, show (q.1 == i) = true from beq_iff_eq.mpr e]
      exact h
    · rw [show (q.1 == i) = false from beq_false_of_ne e] at h
      split
      · rw [List.find?_cons, show (q.1 == i) = false from beq_false_of_ne e]
        exact ih h
      · exact ih h
section
variable {I : IN} {n m : Nat}
theorem cat_L {s : SV} {v : Value} (h : SVm I n m s v) : v.category = 2 ↔ isL s = true := by
  rw [sv_cat h]
  unfold s_cat
  cases isL s
  · rw [cond_false]; exact ⟨fun h => by omega, fun h => Bool.noConfusion h⟩
  · rw [cond_true]; exact ⟨fun _ => rfl, fun _ => rfl⟩
theorem lvm_put {l : SLV} {vs : LV} {a : Nat} {s : SV} {v : Value} (hk : KN l) (h : LVM I n m l vs) (hv : SVm I n m s v) : LVM I n m (slv_put a s l) (lv_put a v vs) := by
  intro i t ht
  by_cases e : a = i
  · subst e
    rw [slv_put, s_hit] at ht
    cases ht
    refine ⟨v, ?_, hv⟩
    unfold lv_get lv_put
    rw [List.find?_cons, show ((a, v).1 == a) = true from beq_iff_eq.mpr rfl]
    rfl
  · rw [slv_put, s_miss (q := (a, s)) e] at ht
    obtain ⟨g1, g2, g3, g4⟩ := rm_find hk ht
    obtain ⟨w, w1, w2⟩ := h i t g1
    refine ⟨w, ?_, w2⟩
    have : lv_get i (lv_put a v vs) = lv_get i (vs.filter (fun q => !(q.1 == a) && (!(v.category == 2 && q.1 == a + 1) && !(q.1 + 1 == a && q.2.category == 2)))) := by
      unfold lv_put lv_get
      rw [List.find?_cons, show ((a, v).1 == i) = false from beq_false_of_ne e]
    rw [this]
    exact lg_filter g2 (fun ⟨p1, p2⟩ => g3 ⟨(cat_L hv).mp p1, p2⟩) (fun ⟨p1, p2⟩ => g4 ⟨p1, (cat_L w2).mp p2⟩) w1
theorem args_lt {j : Nat} : ∀ {l : List SV} {i : Nat}, j < i → s_find j (s_args i l) = none := by
  intro l
  induction l with
  | nil => intro i _; rfl
  | cons v r ih => intro i h; rw [s_args, s_miss (q := (i, v)) (by show ¬ i = j; omega)]; exact ih (by omega)
theorem args_kn {l : List SV} : ∀ {i : Nat}, KN (s_args i l) := by
  induction l with
  | nil => intro i; exact True.intro
  | cons v r ih => intro i; exact ⟨args_lt (Nat.lt_succ_self _), ih⟩
theorem lvm_args {l : List SV} : ∀ {vs : List Value} (i : Nat), LM I n m l vs → LVM I n m (s_args i l) (am_args i vs) := by
  induction l with
  | nil => intro vs i _ j s hs; cases hs
  | cons x q ih =>
    intro vs i h j s hs
    obtain ⟨w, t, rfl, h3, h4⟩ := lm_cons h
    by_cases e : i = j
    · subst e
      rw [s_args, s_hit] at hs
      cases hs
      refine ⟨w, ?_, h3⟩
      unfold lv_get
      rw [am_args, List.find?_cons, show ((i, w).1 == i) = true from beq_iff_eq.mpr rfl]
      rfl
    · rw [s_args, s_miss (q := (i, x)) e] at hs
      obtain ⟨u, u1, u2⟩ := ih (i + 1) h4 j s hs
      refine ⟨u, ?_, u2⟩
      unfold lv_get at u1 ⊢
      rw [am_args, List.find?_cons, show ((i, w).1 == j) = false from beq_false_of_ne e]
      exact u1
end
