/-! ===== what is known of names holds ===== -/
noncomputable def sval (nu : Nat → Nat) (s : SV) : Nat := bif isN s then nu s.2.1 else s.2.1
noncomputable def okn (m : Nat) (s : SV) : Prop := isN s = true → s.2.1 < m
noncomputable def nsum (nu : Nat → Nat) (l : List Nat) : Nat := match l with
  | [] => 0
  | a :: r => nu a + nsum nu r
noncomputable def EnvN (nu : Nat → Nat) (E : EN) : Prop := ∀ i, (e_find i E).1 ≤ nu i ∧ nu i ≤ (e_find i E).2
noncomputable def LFn (m : Nat) (f : LF) : Prop := (∀ a, a ∈ f.1 → a < m) ∧ ∀ a, a ∈ f.2.1 → a < m
noncomputable def LFle (nu : Nat → Nat) (f : LF) : Prop := nsum nu f.1 + f.2.2.1 ≤ nsum nu f.2.1 + f.2.2.2
noncomputable def LFeq (nu : Nat → Nat) (v : Nat) (f : LF) : Prop := v + nsum nu f.2.1 + f.2.2.2 = nsum nu f.1 + f.2.2.1
noncomputable def OpR (k a c r : Nat) : Prop :=
  (k < 10 ∧ ∃ x y z : Int32, i2n x = a ∧ (i2n y = c ∧ (ibin k x y = some z ∧ i2n z = r))) ∨
  ((20 ≤ k ∧ k < 24) ∧ ∃ x y z : Int64, l2n x = a ∧ (l2n y = c ∧ (lbin (k - 20) x y = some z ∧ l2n z = r))) ∨
  (k = 30 ∧ ∃ x : Int32, i2n x = a ∧ l2n x.toInt64 = r) ∨
  (k = 31 ∧ ∃ x : Int64, l2n x = a ∧ i2n x.toInt32 = r) ∨
  (k = 32 ∧ ∃ x : Int32, i2n x = a ∧ i2n x.toInt8.toInt32 = r) ∨
  (k = 33 ∧ ∃ x : Int32, i2n x = a ∧ i2n x.toInt16.toInt32 = r) ∨
  (k = 34 ∧ ∃ x : Int32, i2n x = a ∧ i2n (-x) = r) ∨
  (k = 40 ∧ r = max a c) ∨ (k = 41 ∧ r = min a c) ∨
  (k = 42 ∧ ∃ x : Int32, i2n x = a ∧ i2n (if 0 ≤ x then x else 0 - x) = r)
noncomputable def Dok (nu : Nat → Nat) (m : Nat) (q : Nat × Nat × SV × SV) : Prop := q.1 < m ∧ (okn m q.2.2.1 ∧ (okn m q.2.2.2 ∧ OpR q.2.1 (sval nu q.2.2.1) (sval nu q.2.2.2) (nu q.1)))
noncomputable def Tok (nu : Nat → Nat) (m : Nat) (q : Nat × LF) : Prop := q.1 < m ∧ (LFn m q.2 ∧ LFeq nu (nu q.1) q.2)
noncomputable def GK (nu : Nat → Nat) (G : SG) : Prop := EnvN nu (g_e G) ∧ ((∀ q, q ∈ g_d G → Dok nu (g_n G) q) ∧ ((∀ q, q ∈ g_t G → Tok nu (g_n G) q) ∧ ∀ f, f ∈ g_f G → LFn (g_n G) f ∧ LFle nu f))
noncomputable def Fix (G G' : SG) : Prop := g_h G' = g_h G ∧ (g_u G' = g_u G ∧ (g_q G' = g_q G ∧ (g_c G' = g_c G ∧ (g_x G' = g_x G ∧ (g_k G' = g_k G ∧ g_p G' = g_p G)))))
noncomputable def Ag (n : Nat) (nu nu' : Nat → Nat) : Prop := ∀ i, i < n → nu' i = nu i
/-- more is known, perhaps more names -/
noncomputable def NK (nu : Nat → Nat) (G : SG) (nu' : Nat → Nat) (G' : SG) : Prop := GK nu' G' ∧ (Ag (g_n G) nu nu' ∧ (g_n G ≤ g_n G' ∧ Fix G G'))
theorem fix_refl (G : SG) : Fix G G := ⟨rfl, rfl, rfl, rfl, rfl, rfl, rfl⟩
theorem fix_trans {A B C : SG} (h : Fix A B) (k : Fix B C) : Fix A C :=
  ⟨k.1.trans h.1, k.2.1.trans h.2.1, k.2.2.1.trans h.2.2.1, k.2.2.2.1.trans h.2.2.2.1, k.2.2.2.2.1.trans h.2.2.2.2.1, k.2.2.2.2.2.1.trans h.2.2.2.2.2.1, k.2.2.2.2.2.2.trans h.2.2.2.2.2.2⟩
theorem nk_refl {nu : Nat → Nat} {G : SG} (h : GK nu G) : NK nu G nu G := ⟨h, fun _ _ => rfl, Nat.le_refl _, fix_refl G⟩
theorem nk_trans {nu nu' nu'' : Nat → Nat} {G G' G'' : SG} (h : NK nu G nu' G') (k : NK nu' G' nu'' G'') : NK nu G nu'' G'' :=
  ⟨k.1, fun i hi => (k.2.1 i (Nat.lt_of_lt_of_le hi h.2.2.1)).trans (h.2.1 i hi), Nat.le_trans h.2.2.1 k.2.2.1, fix_trans h.2.2.2 k.2.2.2⟩
theorem nsum_app (nu : Nat → Nat) (l r : List Nat) : nsum nu (l ++ r) = nsum nu l + nsum nu r := by
  induction l with
  | nil => rw [List.nil_append, nsum, Nat.zero_add]
  | cons a l ih => rw [List.cons_append, nsum, nsum, ih, Nat.add_assoc]
theorem nsum_ag {nu nu' : Nat → Nat} {m : Nat} {l : List Nat} (h : ∀ a, a ∈ l → a < m) (hu : Ag m nu nu') : nsum nu' l = nsum nu l := by
  induction l with
  | nil => rfl
  | cons a l ih => rw [nsum, nsum, hu a (h a List.mem_cons_self), ih fun b hb => h b (List.mem_cons_of_mem _ hb)]
theorem sval_ag {nu nu' : Nat → Nat} {m : Nat} {s : SV} (h : okn m s) (hu : Ag m nu nu') : sval nu' s = sval nu s := by
  unfold sval
  cases hn : isN s
  · rfl
  · exact hu _ (h hn)
theorem okn_up {m m' : Nat} {s : SV} (h : okn m s) (hm : m ≤ m') : okn m' s := fun hn => Nat.lt_of_lt_of_le (h hn) hm
theorem lfn_up {m m' : Nat} {f : LF} (h : LFn m f) (hm : m ≤ m') : LFn m' f := ⟨fun a ha => Nat.lt_of_lt_of_le (h.1 a ha) hm, fun a ha => Nat.lt_of_lt_of_le (h.2 a ha) hm⟩
theorem dok_up {nu nu' : Nat → Nat} {m m' : Nat} {q : Nat × Nat × SV × SV} (h : Dok nu m q) (hm : m ≤ m') (hu : Ag m nu nu') : Dok nu' m' q := by
  obtain ⟨h1, h2, h3, h4⟩ := h
  refine ⟨Nat.lt_of_lt_of_le h1 hm, okn_up h2 hm, okn_up h3 hm, ?_⟩
  rw [sval_ag h2 hu, sval_ag h3 hu, hu _ h1]
  exact h4
theorem tok_up {nu nu' : Nat → Nat} {m m' : Nat} {q : Nat × LF} (h : Tok nu m q) (hm : m ≤ m') (hu : Ag m nu nu') : Tok nu' m' q := by
  obtain ⟨h1, h2, h3⟩ := h
  refine ⟨Nat.lt_of_lt_of_le h1 hm, lfn_up h2 hm, ?_⟩
  unfold LFeq at h3 ⊢
  rw [nsum_ag h2.1 hu, nsum_ag h2.2 hu, hu _ h1]
  exact h3
theorem fok_up {nu nu' : Nat → Nat} {m m' : Nat} {f : LF} (h : LFn m f ∧ LFle nu f) (hm : m ≤ m') (hu : Ag m nu nu') : LFn m' f ∧ LFle nu' f := by
  refine ⟨lfn_up h.1 hm, ?_⟩
  have := h.2
  unfold LFle at this ⊢
  rw [nsum_ag h.1.1 hu, nsum_ag h.1.2 hu]
  exact this
noncomputable def nset (nu : Nat → Nat) (m v : Nat) : Nat → Nat := fun i => if i = m then v else nu i
theorem nset_at (nu : Nat → Nat) (m v : Nat) : nset nu m v m = v := if_pos rfl
theorem nset_ag (nu : Nat → Nat) (m v : Nat) : Ag m nu (nset nu m v) := fun i hi => if_neg (by omega)
theorem e_hit (i lo hi : Nat) (E : EN) : e_find i ((i, lo, hi) :: E) = (lo, hi) := by rw [e_find, Nat.beq_refl]; rfl
theorem e_miss {i j lo hi : Nat} {E : EN} (h : ¬ j = i) : e_find i ((j, lo, hi) :: E) = e_find i E := by
  rw [e_find]
  cases hb : Nat.beq j i
  · rfl
  · exact absurd (beqt hb) h
theorem env_set {nu : Nat → Nat} {E : EN} {m v lo hi : Nat} (h : EnvN nu E) (h1 : lo ≤ v) (h2 : v ≤ hi) : EnvN (nset nu m v) ((m, lo, hi) :: E) := by
  intro i
  by_cases e : m = i
  · subst e; rw [nset_at, e_hit]; exact ⟨h1, h2⟩
  · rw [e_miss e, show nset nu m v i = nu i from if_neg (fun q => e q.symm)]; exact h i
theorem env_add {nu : Nat → Nat} {E : EN} {m lo hi : Nat} (h : EnvN nu E) (h1 : lo ≤ nu m) (h2 : nu m ≤ hi) : EnvN nu ((m, lo, hi) :: E) := by
  intro i
  by_cases e : m = i
  · subst e; rw [e_hit]; exact ⟨h1, h2⟩
  · rw [e_miss e]; exact h i
section
variable {nu nu' : Nat → Nat} {G G' : SG} {x y v : SV}
theorem itv_ok (h : EnvN nu (g_e G)) (v : SV) : (itv G v).1 ≤ sval nu v ∧ sval nu v ≤ (itv G v).2 := by
  unfold itv sval
  cases isN v
  · exact ⟨Nat.le_refl _, Nat.le_refl _⟩
  · exact h _
/-- a new name -/
theorem nk_fresh {lo hi w : Nat} (h : GK nu G) (h1 : lo ≤ w) (h2 : w ≤ hi) : NK nu G (nset nu (g_n G) w) (y_fresh G lo hi) := by
  have hu := nset_ag nu (g_n G) w
  refine ⟨⟨env_set h.1 h1 h2, fun q hq => dok_up (h.2.1 q hq) (Nat.le_succ _) hu, fun q hq => tok_up (h.2.2.1 q hq) (Nat.le_succ _) hu, fun f hf => fok_up (h.2.2.2 f hf) (Nat.le_succ _) hu⟩, hu, Nat.le_succ _, rfl, rfl, rfl, rfl, rfl, rfl, rfl⟩
theorem nk_know {lo hi : Nat} (h : GK nu G) (h1 : lo ≤ sval nu v) (h2 : sval nu v ≤ hi) : NK nu G nu (y_know G v lo hi) := by
  unfold y_know
  unfold sval at h1 h2
  cases hn : isN v
  · rw [cond_false]; exact nk_refl h
  · rw [cond_true]
    rw [hn, cond_true] at h1 h2
    exact ⟨⟨env_add h.1 h1 h2, h.2.1, h.2.2.1, h.2.2.2⟩, fun _ _ => rfl, Nat.le_refl _, rfl, rfl, rfl, rfl, rfl, rfl, rfl⟩
/-! linear forms -/
theorem t_find_ok {i : Nat} {l : List (Nat × LF)} {f : LF} (h : t_find i l = some f) : (i, f) ∈ l := by
  induction l with
  | nil => cases h
  | cons q r ih =>
    unfold t_find at h
    cases hb : Nat.beq q.1 i
    · rw [hb, cond_false] at h; exact List.mem_cons_of_mem _ (ih h)
    · rw [hb, cond_true] at h
      have e : q = (i, f) := Prod.ext (beqt hb) (Option.some.inj h)
      rw [e]; exact List.mem_cons_self
theorem lf_ok (h : GK nu G) (hv : okn (g_n G) v) : LFn (g_n G) (lf_of G v) ∧ LFeq nu (sval nu v) (lf_of G v) := by
  unfold lf_of sval
  cases hn : isN v
  · rw [cond_false, cond_false]
    exact ⟨⟨fun a ha => (by cases ha), fun a ha => (by cases ha)⟩, by show v.2.1 + 0 + 0 = 0 + v.2.1; omega⟩
  · rw [cond_true, cond_true]
    split
    · rename_i f hf
      have := h.2.2.1 _ (t_find_ok hf)
      exact this.2
    · refine ⟨⟨fun a ha => ?_, fun a ha => (by cases ha)⟩, by show nu v.2.1 + 0 + 0 = (nu v.2.1 + 0) + 0; omega⟩
      rw [List.mem_singleton.mp ha]; exact hv hn
theorem mrem_ok {a : Nat} {l r : List Nat} (h : mrem a l = some r) : nsum nu l = nu a + nsum nu r ∧ ∀ b, b ∈ r → b ∈ l := by
  induction l generalizing r with
  | nil => cases h
  | cons b l ih =>
    unfold mrem at h
    cases hb : Nat.beq a b
    · rw [hb, cond_false] at h
      split at h
      · rename_i q hq
        obtain ⟨i1, i2⟩ := ih hq
        cases h
        refine ⟨by rw [nsum, nsum, i1]; omega, fun c hc => ?_⟩
        rcases List.mem_cons.mp hc with rfl | hc
        · exact List.mem_cons_self
        · exact List.mem_cons_of_mem _ (i2 c hc)
      · cases h
    · rw [hb, cond_true] at h
      cases h
      rw [beqt hb]
      exact ⟨rfl, fun c hc => List.mem_cons_of_mem _ hc⟩
theorem canc_ok (P N : List Nat) : nsum nu P + nsum nu (canc P N).2 = nsum nu (canc P N).1 + nsum nu N ∧ ((∀ a, a ∈ (canc P N).1 → a ∈ P) ∧ ∀ a, a ∈ (canc P N).2 → a ∈ N) := by
  induction P generalizing N with
  | nil => exact ⟨by show 0 + nsum nu N = 0 + nsum nu N; rfl, fun a ha => (by cases ha), fun a ha => ha⟩
  | cons a r ih =>
    unfold canc
    split
    · rename_i M hM
      obtain ⟨i1, i2, i3⟩ := ih M
      obtain ⟨m1, m2⟩ := mrem_ok (nu := nu) hM
      exact ⟨by rw [nsum, m1]; omega, fun b hb => List.mem_cons_of_mem _ (i2 b hb), fun b hb => m2 b (i3 b hb)⟩
    · obtain ⟨i1, i2, i3⟩ := ih N
      refine ⟨by rw [nsum]; show _ + nsum nu (canc r N).2 = (nu a + nsum nu (canc r N).1) + _; omega, fun b hb => ?_, i3⟩
      rcases List.mem_cons.mp hb with rfl | hb
      · exact List.mem_cons_self
      · exact List.mem_cons_of_mem _ (i2 b hb)
theorem lnorm_ok (f : LF) : nsum nu f.1 + f.2.2.1 + (nsum nu (lnorm f).2.1 + (lnorm f).2.2.2) = nsum nu f.2.1 + f.2.2.2 + (nsum nu (lnorm f).1 + (lnorm f).2.2.1) := by
  have h := (canc_ok (nu := nu) f.1 f.2.1).1
  show nsum nu f.1 + f.2.2.1 + (nsum nu (canc f.1 f.2.1).2 + (f.2.2.2 - f.2.2.1)) = nsum nu f.2.1 + f.2.2.2 + (nsum nu (canc f.1 f.2.1).1 + (f.2.2.1 - f.2.2.2))
  omega
theorem lnorm_le (f : LF) : LFle nu (lnorm f) ↔ LFle nu f := by
  have h := lnorm_ok (nu := nu) f
  unfold LFle
  constructor <;> intro k <;> omega
theorem lnorm_n {m : Nat} {f : LF} (h : LFn m f) : LFn m (lnorm f) := by
  have k := (canc_ok (nu := fun _ => 0) f.1 f.2.1).2
  exact ⟨fun a ha => h.1 a (k.1 a ha), fun a ha => h.2 a (k.2 a ha)⟩
theorem lnorm_eq {w : Nat} (f : LF) : LFeq nu w (lnorm f) ↔ LFeq nu w f := by
  have h := lnorm_ok (nu := nu) f
  unfold LFeq
  constructor <;> intro k <;> omega
theorem sum_hi_ok {E : EN} (h : EnvN nu E) (l : List Nat) : nsum nu l ≤ sum_hi E l := by
  induction l with
  | nil => exact Nat.le_refl _
  | cons a l ih => rw [nsum, sum_hi]; have := (h a).2; omega
theorem sum_lo_ok {E : EN} (h : EnvN nu E) (l : List Nat) : sum_lo E l ≤ nsum nu l := by
  induction l with
  | nil => exact Nat.le_refl _
  | cons a l ih => rw [nsum, sum_lo]; have := (h a).1; omega
theorem lbase_ok {E : EN} {f : LF} (h : EnvN nu E) (hb : lbase E f = true) : LFle nu f := by
  have h1 := blet hb
  have h2 := sum_hi_ok h f.1
  have h3 := sum_lo_ok h f.2.1
  unfold LFle
  omega
theorem lcomb_ok {f g : LF} (hg : LFle nu g) (h : LFle nu (lcomb f g)) : LFle nu f := by
  have h1 := (lnorm_le (nu := nu) _).mp h
  unfold LFle at h1 hg ⊢
  dsimp only at h1
  rw [nsum_app, nsum_app] at h1
  omega
theorem lsome_ok {t : LF → Bool} {f : LF} {F : List LF} (h : lsome t f F = true) : ∃ g, g ∈ F ∧ t (lcomb f g) = true := by
  induction F with
  | nil => cases h
  | cons g r ih =>
    unfold lsome at h
    cases hb : (bif lshare f g then t (lcomb f g) else false)
    · rw [hb, cond_false] at h
      obtain ⟨k, k1, k2⟩ := ih h
      exact ⟨k, List.mem_cons_of_mem _ k1, k2⟩
    · cases hs : lshare f g
      · rw [hs, cond_false] at hb; cases hb
      · rw [hs, cond_true] at hb
        exact ⟨g, List.mem_cons_self, hb⟩
theorem lchk_ok {E : EN} {F : List LF} (hE : EnvN nu E) (hF : ∀ f, f ∈ F → LFle nu f) (k : Nat) : ∀ f, lchk E F k f = true → LFle nu f := by
  induction k with
  | zero => intro f h; exact lbase_ok hE h
  | succ k ih =>
    intro f h
    change (bif lbase E f then true else lsome (lchk E F k) f F) = true at h
    cases hb : lbase E f
    · rw [hb, cond_false] at h
      obtain ⟨g, g1, g2⟩ := lsome_ok h
      exact lcomb_ok (hF g g1) (ih _ g2)
    · exact lbase_ok hE hb
theorem leform_ok {k : Nat} (h : GK nu G) (hx : okn (g_n G) x) (hy : okn (g_n G) y) : LFn (g_n G) (leform G x y k) ∧ (LFle nu (leform G x y k) ↔ sval nu x + k ≤ sval nu y) := by
  obtain ⟨x1, x2⟩ := lf_ok h hx
  obtain ⟨y1, y2⟩ := lf_ok h hy
  unfold leform
  dsimp only
  refine ⟨lnorm_n ⟨fun a ha => ?_, fun a ha => ?_⟩, ?_⟩
  · rcases List.mem_append.mp ha with ha | ha
    · exact x1.1 a ha
    · exact y1.2 a ha
  · rcases List.mem_append.mp ha with ha | ha
    · exact y1.1 a ha
    · exact x1.2 a ha
  · rw [lnorm_le]
    unfold LFle
    unfold LFeq at x2 y2
    dsimp only
    rw [nsum_app, nsum_app]
    constructor <;> intro k <;> omega
theorem y_le_ok {k d : Nat} (h : GK nu G) (hx : okn (g_n G) x) (hy : okn (g_n G) y) (hc : y_le G x y k d = true) : sval nu x + k ≤ sval nu y :=
  (leform_ok h hx hy).2.mp (lchk_ok h.1 (fun f hf => (h.2.2.2 f hf).2) d _ hc)
theorem tgP_ok {f : LF} {a : Nat} {E : EN} (hE : EnvN nu E) (hf : LFle nu f) : ∃ E2, tgP f a E = some E2 ∧ EnvN nu E2 := by
  unfold tgP
  split
  · exact ⟨E, rfl, hE⟩
  · rename_i r hr
    dsimp only
    obtain ⟨m1, -⟩ := mrem_ok (nu := nu) hr
    have h1 := sum_lo_ok hE r
    have h2 := sum_hi_ok hE f.2.1
    have h3 := hE a
    unfold LFle at hf
    cases b1 : Nat.ble ((e_find a E).2 + (sum_lo E r + f.2.2.1)) (sum_hi E f.2.1 + f.2.2.2)
    · rw [cond_false]
      cases b2 : Nat.ble ((e_find a E).1 + (sum_lo E r + f.2.2.1)) (sum_hi E f.2.1 + f.2.2.2)
      · exact absurd (Nat.ble_eq_true_of_le (show (e_find a E).1 + (sum_lo E r + f.2.2.1) ≤ sum_hi E f.2.1 + f.2.2.2 by omega)) (by rw [b2]; exact Bool.false_ne_true)
      · exact ⟨_, rfl, env_add hE h3.1 (by omega)⟩
    · exact ⟨E, rfl, hE⟩
theorem tgN_ok {f : LF} {a : Nat} {E : EN} (hE : EnvN nu E) (hf : LFle nu f) : ∃ E2, tgN f a E = some E2 ∧ EnvN nu E2 := by
  unfold tgN
  split
  · exact ⟨E, rfl, hE⟩
  · rename_i r hr
    dsimp only
    obtain ⟨m1, -⟩ := mrem_ok (nu := nu) hr
    have h1 := sum_hi_ok hE r
    have h2 := sum_lo_ok hE f.1
    have h3 := hE a
    unfold LFle at hf
    cases b1 : Nat.ble (sum_lo E f.1 + f.2.2.1) ((e_find a E).1 + (sum_hi E r + f.2.2.2))
    · rw [cond_false]
      cases b2 : Nat.ble (sum_lo E f.1 + f.2.2.1) ((e_find a E).2 + (sum_hi E r + f.2.2.2))
      · exact absurd (Nat.ble_eq_true_of_le (show sum_lo E f.1 + f.2.2.1 ≤ (e_find a E).2 + (sum_hi E r + f.2.2.2) by omega)) (by rw [b2]; exact Bool.false_ne_true)
      · exact ⟨_, rfl, env_add hE (by omega) h3.2⟩
    · exact ⟨E, rfl, hE⟩
theorem tgs_ok {g : Nat → EN → Option EN} (hg : ∀ a E, EnvN nu E → ∃ E2, g a E = some E2 ∧ EnvN nu E2) (l : List Nat) {E : EN} (hE : EnvN nu E) : ∃ E2, tgs g l E = some E2 ∧ EnvN nu E2 := by
  induction l generalizing E with
  | nil => exact ⟨E, rfl, hE⟩
  | cons a r ih =>
    obtain ⟨E1, e1, e2⟩ := hg a E hE
    obtain ⟨E2, e3, e4⟩ := ih e2
    exact ⟨E2, by rw [tgs, e1]; exact e3, e4⟩
/-- a fact that holds can be added -/
theorem y_fact_ok {k : Nat} (h : GK nu G) (hx : okn (g_n G) x) (hy : okn (g_n G) y) (hk : sval nu x + k ≤ sval nu y) : ∃ G', y_fact G x y k = some G' ∧ NK nu G nu G' := by
  obtain ⟨f1, f2⟩ := leform_ok (k := k) h hx hy
  have f3 := f2.mpr hk
  unfold y_fact
  generalize leform G x y k = f at f1 f3 ⊢
  dsimp only
  split
  · exact ⟨G, rfl, nk_refl h⟩
  · obtain ⟨E1, e1, e2⟩ := tgs_ok (g := tgP f) (fun a E hE => tgP_ok hE f3) f.1 h.1
    obtain ⟨E2, e3, e4⟩ := tgs_ok (g := tgN f) (fun a E hE => tgN_ok hE f3) f.2.1 e2
    rw [e1]
    dsimp only
    rw [e3]
    dsimp only
    refine ⟨_, rfl, ⟨e4, h.2.1, h.2.2.1, fun g hg => ?_⟩, fun _ _ => rfl, Nat.le_refl _, rfl, rfl, rfl, rfl, rfl, rfl, rfl⟩
    rcases List.mem_cons.mp hg with rfl | hg
    · exact ⟨f1, f3⟩
    · exact h.2.2.2 g hg
theorem y_fact_some {k : Nat} {G' : SG} (h : GK nu G) (hx : okn (g_n G) x) (hy : okn (g_n G) y) (hk : sval nu x + k ≤ sval nu y) (e : y_fact G x y k = some G') : NK nu G nu G' := by
  obtain ⟨G2, e2, h2⟩ := y_fact_ok h hx hy hk
  rw [e] at e2
  cases e2
  exact h2
end
