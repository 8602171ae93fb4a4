/-! ===== more is known; cells; plain reads ===== -/
theorem exg_ag {nu nu' : Nat → Nat} {m : Nat} {X : List (Nat × SV)} (h : ∀ x, x ∈ X → okn m x.2) (hu : Ag m nu nu') {t k : Nat} : ExG nu' X t k ↔ ExG nu X t k := by
  constructor
  · rintro ⟨e, h1, h2⟩
    exact ⟨e, h1, by rw [← sval_ag (h _ h1) hu]; exact h2⟩
  · rintro ⟨e, h1, h2⟩
    exact ⟨e, h1, by rw [sval_ag (h _ h1) hu]; exact h2⟩
theorem ts_ex {ad : AD} {h : AH} {np : Nat} {ex ex' ho : Nat → Nat → Prop} (hT : TS ad h np ex ho) (he : ∀ t k, ex t k → ex' t k) : TS ad h np ex' ho := by
  obtain ⟨h1, h2, h3, h4, h5, h6⟩ := hT
  exact ⟨h1, h2, h3, h4, h5, fun t k ht hk => h6 t k ht fun hx => hk (he t k hx)⟩
theorem cell_ag {I : IN} {nu' : Nat → Nat} {n m m' : Nat} {h : AH} {q : CE} (hc : CellOK2 I n m h q) (hm : m ≤ m') (hu : Ag m I.1 nu') : CellOK2 (nu', I.2) n m' h q := by
  obtain ⟨h1, h2, h3, h4⟩ := hc
  refine ⟨okn_up h1 hm, okn_up h2 hm, h3, ?_⟩
  rcases h4 with ⟨a, i, j, V, b, c, d, e⟩ | ⟨a, b, c, d⟩ | ⟨a, b, c, i, q, k, vs, d, e, f, g⟩ | ⟨a, b, c, d⟩
  · exact Or.inl ⟨a, i, j, V, (sval_ag h1 hu).trans b, (sval_ag h2 hu).trans c, d, sv_up e (Nat.le_refl _) hm hu (fun _ _ => rfl) (fun _ _ _ _ h => h)⟩
  · exact Or.inr (Or.inl ⟨a, b, okn_up c hm, fun k => by
      show _ ↔ _ < sval nu' _
      rw [sval_ag c hu]; exact d k⟩)
  · exact Or.inr (Or.inr (Or.inl ⟨a, b, okn_up c hm, i, q, k, vs, (sval_ag h1 hu).trans d, e, f, (sval_ag c hu).trans g⟩))
  · exact Or.inr (Or.inr (Or.inr ⟨a, b, okn_up c hm, by
      show PX _ _ _ _ (sval nu' _) (sval nu' _)
      rw [sval_ag h1 hu, sval_ag c hu]; exact d⟩))
theorem hm_ag {I : IN} {nu' : Nat → Nat} {n m m' : Nat} {H : List SO} {h : AH} (hH : HMr I n m H h) (hm : m ≤ m') (hu : Ag m I.1 nu') : HMr (nu', I.2) n m' H h := by
  intro k o hk
  rcases hH k o hk with ⟨a, w, b, c, d⟩ | ⟨a, b, vs, c, d⟩
  · exact Or.inl ⟨a, w, b, c, sv_up d (Nat.le_refl _) hm hu (fun _ _ => rfl) (fun _ _ _ _ h => h)⟩
  · refine Or.inr ⟨a, b, vs, c, ?_⟩
    cases ho : o.2 with
    | inl q => rw [ho] at d; exact d
    | inr l => rw [ho] at d; exact lm_up (l := l) d (Nat.le_refl _) hm hu (fun _ _ => rfl) (fun _ _ _ _ h => h)
theorem hk_ag {B : BS} {I : IN} {nu' : Nat → Nat} {n m m' u q np : Nat} {H : List SO} {C : List CE} {X : List (Nat × SV)} {K : List Nat} {h : AH} (hk : HK B I n m H C X K u q np h) (hm : m ≤ m') (hu : Ag m I.1 nu') : HK B (nu', I.2) n m' H C X K u q np h := by
  obtain ⟨h1, h2, h3, h4, h5, h6⟩ := hk
  exact ⟨hm_ag h1 hm hu, h2, ts_ex h3 fun t k => (exg_ag h4 hu).mpr, fun x hx => okn_up (h4 x hx) hm, fun x hx => cell_ag (h5 x hx) hm hu, h6⟩
section
variable {B : BS} {I : IN} {G G' : SG} {h : AH} {nu' : Nat → Nat}
theorem rm_nk (hR : RM B I G h) (k : NK I.1 G nu' G') : RM B (nu', I.2) G' h := by
  obtain ⟨k1, k2, k3, e1, e2, e3, e4, e5, e6, e7⟩ := k
  refine ⟨k1, ?_⟩
  rw [e1, e2, e3, e4, e5, e6, e7]
  exact hk_ag hR.2 k3 k2
theorem rm_nk' (hR : RM B I G h) (k : NK I.1 G I.1 G') : RM B I G' h := rm_nk hR k
theorem gk_c {C : List CE} (h : GK I.1 G) : GK I.1 (upC G C) := h
theorem rm_cell {c : Nat} {i j v : SV} (hR : RM B I G h) (hc : CellOK2 I (g_h G).length (g_n G) h (c, i, j, v)) : RM B I (y_put G c i j v) h := by
  obtain ⟨k, h1, h2, h3, h4, h5, h6⟩ := hR
  refine ⟨k, h1, h2, h3, h4, fun x hx => ?_, h6⟩
  rcases List.mem_cons.mp hx with rfl | hx
  · exact hc
  · exact h5 x hx
/-- the heap stands; more is known, cells too -/
noncomputable def NH (I : IN) (G : SG) (nu' : Nat → Nat) (G' : SG) : Prop := Ag (g_n G) I.1 nu' ∧ (g_n G ≤ g_n G' ∧ (g_h G' = g_h G ∧ (g_u G' = g_u G ∧ (g_q G' = g_q G ∧ (g_x G' = g_x G ∧ (g_k G' = g_k G ∧ g_p G' = g_p G))))))
theorem nh_refl (I : IN) (G : SG) : NH I G I.1 G := ⟨fun _ _ => rfl, Nat.le_refl _, rfl, rfl, rfl, rfl, rfl, rfl⟩
theorem nh_nk (k : NK I.1 G nu' G') : NH I G nu' G' := ⟨k.2.1, k.2.2.1, k.2.2.2.1, k.2.2.2.2.1, k.2.2.2.2.2.1, k.2.2.2.2.2.2.2.1, k.2.2.2.2.2.2.2.2.1, k.2.2.2.2.2.2.2.2.2⟩
theorem nh_put {c : Nat} {i j v : SV} (k : NH I G nu' G') : NH I G nu' (y_put G' c i j v) := k
theorem nh_trans {nu'' : Nat → Nat} {G'' : SG} (h : NH I G nu' G') (k : NH (nu', I.2) G' nu'' G'') : NH I G nu'' G'' :=
  ⟨fun i hi => (k.1 i (Nat.lt_of_lt_of_le hi h.2.1)).trans (h.1 i hi), Nat.le_trans h.2.1 k.2.1, k.2.2.1.trans h.2.2.1, k.2.2.2.1.trans h.2.2.2.1, k.2.2.2.2.1.trans h.2.2.2.2.1, k.2.2.2.2.2.1.trans h.2.2.2.2.2.1, k.2.2.2.2.2.2.1.trans h.2.2.2.2.2.2.1, k.2.2.2.2.2.2.2.trans h.2.2.2.2.2.2.2⟩
theorem gr_nh (k : NH I G nu' G') : Gr I G (nu', I.2) G' := ⟨k.1, k.2.1, fun _ _ => rfl, Nat.le_of_eq (by rw [k.2.2.1]), fun _ _ _ _ h => h⟩
theorem sv_nh {s : SV} {v : Value} (hs : SVm I (g_h G).length (g_n G) s v) (k : NH I G nu' G') : SVm (nu', I.2) (g_h G').length (g_n G') s v :=
  sv_up hs (Nat.le_of_eq (by rw [k.2.2.1])) k.2.1 k.1 (fun _ _ => rfl) (fun _ _ _ _ h => h)
/-- one outcome of a read is the value that stands there -/
noncomputable def RdOK (B : BS) (I : IN) (G : SG) (h : AH) (l : List (SV × SG)) (V : Value) : Prop := ∃ q, q ∈ l ∧ ∃ nu', SVm (nu', I.2) (g_h q.2).length (g_n q.2) q.1 V ∧ (RM B (nu', I.2) q.2 h ∧ NH I G nu' q.2)
theorem c_find_ok {c : Nat} {i j v : SV} {l : List CE} (h : c_find c i j l = some v) : (c, i, j, v) ∈ l := by
  induction l with
  | nil => cases h
  | cons q r ih =>
    unfold c_find at h
    cases hb : Nat.beq q.1 c && (veq q.2.1 i && veq q.2.2.1 j)
    · rw [hb, cond_false] at h; exact List.mem_cons_of_mem _ (ih h)
    · rw [hb, cond_true] at h
      obtain ⟨h1, h2⟩ := and2 hb
      obtain ⟨h2, h3⟩ := and2 h2
      have e : q = (c, i, j, v) := Prod.ext (beqt h1) (Prod.ext (veq_ok h2) (Prod.ext (veq_ok h3) (Option.some.inj h)))
      rw [e]; exact List.mem_cons_self
theorem at_fun {ad : AD} {c i p : Nat} {V W : Value} (h1 : At ad h c i p V) (h2 : At ad h c i p W) : V = W := by
  obtain ⟨q, k, vs, a, b, d⟩ := h1
  obtain ⟨q', k', vs', a', b', d'⟩ := h2
  rw [a] at a'; cases a'
  rw [b] at b'; cases b'
  rw [d] at d'; exact Option.some.inj d'
theorem isI_8 {j : SV} (h : isI j = true) : ¬ j.1 = 8 ∧ ¬ j.1 = 9 := by
  have := tag_I h
  omega
theorem isI_10 {j : SV} (h : isI j = true) : ¬ 10 ≤ j.1 := by
  have := tag_I h
  omega
/-- a cell says what stands at its place -/
theorem find_ok {c a b : Nat} {i j v : SV} {V : Value} (hR : RM B I G h) (hj : isI j = true) (hi' : sval I.1 i = 2147483648 + a) (hj' : sval I.1 j = 2147483648 + b) (hV : At I.2.2 h c a b V) (hf : y_find G c i j = some v) : SVm I (g_h G).length (g_n G) v V := by
  obtain ⟨-, -, -, h4⟩ := hR.2.2.2.2.2.1 _ (c_find_ok hf)
  rcases h4 with ⟨-, i', j', V', e1, e2, e3, e4⟩ | ⟨e1, -⟩ | ⟨e1, -⟩ | ⟨e1, -⟩
  · have a1 : i' = a := by
      have : sval I.1 i = 2147483648 + i' := e1
      omega
    have a2 : j' = b := by
      have : sval I.1 j = 2147483648 + j' := e2
      omega
    subst a1; subst a2
    rw [at_fun hV e3]
    exact e4
  · exact absurd e1 (isI_8 hj).1
  · exact absurd e1 (isI_8 hj).2
  · exact absurd e1 (isI_10 hj)
theorem yref_idx {c : Nat} {e : SV} (he : isI e = true) : isT (y_ref c e) = true ∧ ((y_ref c e).2.1 = c ∧ ∀ nu m, (sval nu (y_idx (y_ref c e)) = sval nu e ∧ (okn m e → okn m (y_idx (y_ref c e))))) := by
  have h0 := isI_not he
  unfold y_ref
  rcases h0 with h0 | h0
  · have hb : Nat.beq e.1 1 = false := by rw [h0]; rfl
    rw [hb, cond_false]
    refine ⟨rfl, rfl, fun nu m => ⟨?_, fun h => ?_⟩⟩
    · have : isN e = false := by unfold isN; rw [h0]; rfl
      unfold sval
      rw [this]
      rfl
    · exact fun hn => Bool.noConfusion hn
  · have hb : Nat.beq e.1 1 = true := by rw [h0]; rfl
    rw [hb, cond_true]
    refine ⟨rfl, rfl, fun nu m => ⟨?_, fun h => ?_⟩⟩
    · unfold sval
      rw [isN_of (Or.inl h0)]
      rfl
    · intro _
      exact h (isN_of (Or.inl h0))
theorem sv_yref {n m c : Nat} {e : SV} {V : Value} (he : isI e = true) (ho : okn m e) (hc : c < 1000) (hV : RefV I.2.2 c (sval I.1 e) V) : SVm I n m (y_ref c e) V := by
  obtain ⟨h1, h2, h3⟩ := yref_idx (c := c) he
  have h4 := h3 I.1 m
  exact Or.inr (Or.inr (Or.inr (Or.inr ⟨h1, h4.2 ho, by rw [h2]; exact hc, by rw [h2, h4.1]; exact hV⟩)))
theorem cell_mk {c a b : Nat} {i j v : SV} {V : Value} {n m : Nat} (hc : c < 1000) (oi : okn m i) (oj : okn m j) (hj : isI j = true) (hi' : sval I.1 i = 2147483648 + a) (hj' : sval I.1 j = 2147483648 + b) (hV : At I.2.2 h c a b V) (hv : SVm I n m v V) : CellOK2 I n m h (c, i, j, v) :=
  ⟨oi, oj, hc, Or.inl ⟨hj, a, b, V, hi', hj', hV, hv⟩⟩
/-- a new name for what stands at a place, and its cell -/
theorem rd_name {c a b lo hi w : Nat} {i j : SV} {V : Value} (v : SV) (hR : RM B I G h) (hc : c < 1000) (oi : okn (g_n G) i) (oj : okn (g_n G) j) (hj : isI j = true) (hi' : sval I.1 i = 2147483648 + a) (hj' : sval I.1 j = 2147483648 + b) (hV : At I.2.2 h c a b V) (h1 : lo ≤ w) (h2 : w ≤ hi)
    (hv : SVm (nset I.1 (g_n G) w, I.2) (g_h G).length (g_n G + 1) v V) : RdOK B I G h [(v, y_put (y_fresh G lo hi) c i j v)] V := by
  have k := nk_fresh (lo := lo) (hi := hi) (w := w) hR.1 h1 h2
  have hR2 := rm_nk hR k
  refine ⟨_, List.mem_cons_self, _, hv, rm_cell hR2 (cell_mk hc (okn_up oi (Nat.le_succ _)) (okn_up oj (Nat.le_succ _)) hj ?_ ?_ hV hv), nh_put (nh_nk k)⟩
  · show sval (nset I.1 (g_n G) w) i = _
    rw [sval_ag oi (nset_ag _ _ _)]; exact hi'
  · show sval (nset I.1 (g_n G) w) j = _
    rw [sval_ag oj (nset_ag _ _ _)]; exact hj'
theorem ck_tc : ctt.all (fun l => l.all (fun c => c.2.2.all (fun t => Nat.ble t.2.1 999 || Nat.ble t.1 1))) = true := by decide +kernel
theorem ty_cls {c p : Nat} {ty : TY} (h : ct_at c p = some ty) (h2 : 2 ≤ ty.1) : ty.2.1 < 1000 := by
  have hm : ty ∈ (cd c).2.2 := by
    unfold ct_at at h
    cases hb : Nat.beq (cdm c) 0
    · rw [hb, cond_false] at h
      exact List.mem_of_mem_head? h
    · rw [hb, cond_true] at h
      exact List.mem_of_getElem? h
  unfold cd at hm
  by_cases h1 : c / 16 < ctt.length
  · rw [List.getD_eq_getElem?_getD (l := ctt), List.getElem?_eq_getElem h1, Option.getD_some] at hm
    by_cases h3 : c % 16 < (ctt[c / 16]).length
    · rw [List.getD_eq_getElem?_getD, List.getElem?_eq_getElem h3, Option.getD_some] at hm
      have := List.all_eq_true.mp (List.all_eq_true.mp (List.all_eq_true.mp ck_tc _ (List.getElem_mem h1)) _ (List.getElem_mem h3)) ty hm
      rcases or2 this with k | k
      · have := blet k; omega
      · have := blet k; omega
    · rw [List.getD_eq_getElem?_getD, List.getElem?_eq_none (by omega)] at hm
      cases hm
  · have e : ctt.getD (c / 16) [] = [] := by
      rw [List.getD_eq_getElem?_getD, List.getElem?_eq_none (by omega)]
      rfl
    rw [e] at hm
    cases hm
theorem yty_at {c b : Nat} {j : SV} {ty : TY} {nu : Nat → Nat} (h : y_ty c j = some ty) (hj : sval nu j = 2147483648 + b) : ct_at c b = some ty := by
  unfold y_ty at h
  unfold ct_at
  cases hb : Nat.beq (cdm c) 0
  · rw [hb, cond_false] at h
    replace h := bif_some h
    exact h.2
  · rw [hb, cond_true] at h
    replace h := bif_some h
    obtain ⟨h1, h2⟩ := h
    obtain ⟨h1, h3⟩ := and2 h1
    have e := beqt h1
    have e2 : sval nu j = j.2.1 := by unfold sval isN; rw [e]; rfl
    have e3 : j.2.1 - 2147483648 = b := by omega
    rw [e3] at h2
    exact h2
theorem ref_rng {c e : Nat} {V : Value} (hT : T1 I.2.2 h) (hc : c < 1000) (hV : RefV I.2.2 c e V) : 2147483647 ≤ e ∧ e ≤ 2148532224 := by
  rcases hV with ⟨h1, -⟩ | ⟨h1, q, h2, -⟩
  · omega
  · have := (hT c _ q hc h2).1
    omega
theorem at_tv {c a b : Nat} {V : Value} {ty : TY} (hT : T1 I.2.2 h) (hc : c < 1000) (hV : At I.2.2 h c a b V) (ht : ct_at c b = some ty) : TV I.2.2 ty a b V := by
  obtain ⟨q, k, vs, h1, h2, h3⟩ := hV
  obtain ⟨-, k', vs', h4, -, -, h5⟩ := hT c a q hc h1
  rw [h2] at h4; cases h4
  obtain ⟨ty', h6, h7⟩ := h5 b V h3
  rw [ht] at h6; cases h6
  exact h7
theorem y_new_eq {lo hi : Nat} (h : lo = hi) : y_new G lo hi = (sk lo, G) := by
  unfold y_new
  rw [h, Nat.beq_refl]; rfl
theorem y_new_ne {lo hi : Nat} (h : ¬ lo = hi) : y_new G lo hi = ((1, g_n G, 0), y_fresh G lo hi) := by
  unfold y_new
  cases hb : Nat.beq lo hi
  · rfl
  · exact absurd (beqt hb) h
theorem y_plain_ok {c a b : Nat} {i j : SV} {V : Value} {ty : TY} {l : List (SV × SG)} (hR : RM B I G h) (hc : c < 1000) (oi : okn (g_n G) i) (oj : okn (g_n G) j) (hi : isI i = true) (hj : isI j = true) (hi' : sval I.1 i = 2147483648 + a) (hj' : sval I.1 j = 2147483648 + b) (hV : At I.2.2 h c a b V) (ht : ct_at c b = some ty) (hs : y_plain G c i j ty = some l) : RdOK B I G h l V := by
  have hT := hR.2.2.2.1.1
  have hv := at_tv hT hc hV ht
  have hcls := ty_cls ht
  unfold y_plain at hs
  cases e0 : Nat.beq ty.1 0
  · rw [e0, cond_false] at hs
    cases e1 : Nat.beq ty.1 1
    · rw [e1, cond_false] at hs
      have n0 := beqf e0
      have n1 := beqf e1
      have hc2 := hcls (by omega)
      cases e2 : Nat.beq ty.1 2
      · rw [e2, cond_false] at hs
        cases e3 : Nat.beq ty.1 3
        · rw [e3, cond_false] at hs
          cases e4 : Nat.beq ty.1 4
          · rw [e4, cond_false] at hs
            cases e5 : Nat.beq ty.1 5
            · rw [e5, cond_false] at hs
              cases e6 : Nat.beq ty.1 6
              · rw [e6, cond_false] at hs
                replace hs := bif_some hs
                obtain ⟨e7, hs⟩ := hs
                have t7 := beqt e7
                rw [← Option.some.inj hs]
                have hv7 : RefV I.2.2 ty.2.1 2147483648 V := by
                  rcases hv with ⟨t, -⟩ | ⟨t, -⟩ | ⟨t, -⟩ | ⟨t, -⟩ | ⟨t, -⟩ | ⟨t, -⟩ | ⟨t, -⟩ | ⟨-, t⟩ | t <;> first | exact t | omega
                refine ⟨_, List.mem_cons_self, I.1, Or.inr (Or.inr (Or.inr (Or.inr ⟨rfl, fun hn => Bool.noConfusion hn, hc2, hv7⟩))), hR, nh_refl I G⟩
              · rw [e6, cond_true] at hs
                have t6 := beqt e6
                rw [← Option.some.inj hs]
                have hv6 : RefV I.2.2 ty.2.1 (2147483648 + b) V := by
                  rcases hv with ⟨t, -⟩ | ⟨t, -⟩ | ⟨t, -⟩ | ⟨t, -⟩ | ⟨t, -⟩ | ⟨t, -⟩ | ⟨-, t⟩ | ⟨t, -⟩ | t <;> first | exact t | omega
                rw [← hj'] at hv6
                exact ⟨_, List.mem_cons_self, I.1, sv_yref hj oj hc2 hv6, hR, nh_refl I G⟩
            · rw [e5, cond_true] at hs
              have t5 := beqt e5
              rw [← Option.some.inj hs]
              have hv5 : V = .null ∨ RefV I.2.2 ty.2.1 (2147483648 + a) V := by
                rcases hv with ⟨t, -⟩ | ⟨t, -⟩ | ⟨t, -⟩ | ⟨t, -⟩ | ⟨t, -⟩ | ⟨-, t⟩ | ⟨t, -⟩ | ⟨t, -⟩ | t <;> first | exact t | omega
              rcases hv5 with w | w
              · have hsv : SVm I (g_h G).length (g_n G) snull V := Or.inr (Or.inr (Or.inl ⟨rfl, w⟩))
                exact ⟨_, List.mem_cons_self, I.1, hsv, rm_cell hR (cell_mk hc oi oj hj hi' hj' hV hsv), nh_refl I G⟩
              · rw [← hi'] at w
                have hsv : SVm I (g_h G).length (g_n G) (y_ref ty.2.1 i) V := sv_yref hi oi hc2 w
                exact ⟨_, List.mem_cons_of_mem _ List.mem_cons_self, I.1, hsv, rm_cell hR (cell_mk hc oi oj hj hi' hj' hV hsv), nh_refl I G⟩
          · rw [e4, cond_true] at hs
            have t4 := beqt e4
            rw [← Option.some.inj hs]
            have hv4 : RefV I.2.2 ty.2.1 (2147483648 + a) V := by
              rcases hv with ⟨t, -⟩ | ⟨t, -⟩ | ⟨t, -⟩ | ⟨t, -⟩ | ⟨-, t⟩ | ⟨t, -⟩ | ⟨t, -⟩ | ⟨t, -⟩ | t <;> first | exact t | omega
            rw [← hi'] at hv4
            exact ⟨_, List.mem_cons_self, I.1, sv_yref hi oi hc2 hv4, hR, nh_refl I G⟩
        · rw [e3, cond_true] at hs
          have t3 := beqt e3
          rw [← Option.some.inj hs]
          have hv3 : ∃ e, 2147483648 ≤ e ∧ RefV I.2.2 ty.2.1 e V := by
            rcases hv with ⟨t, -⟩ | ⟨t, -⟩ | ⟨t, -⟩ | ⟨-, t⟩ | ⟨t, -⟩ | ⟨t, -⟩ | ⟨t, -⟩ | ⟨t, -⟩ | t <;> first | exact t | omega
          obtain ⟨e, g1, g2⟩ := hv3
          have g3 := ref_rng hT hc2 g2
          refine rd_name (w := e) _ hR hc oi oj hj hi' hj' hV g1 g3.2 (Or.inr (Or.inr (Or.inr (Or.inr ⟨rfl, fun _ => Nat.lt_succ_self _, hc2, ?_⟩))))
          show RefV I.2.2 ty.2.1 (nset I.1 (g_n G) e (g_n G)) V
          rw [nset_at]; exact g2
      · rw [e2, cond_true] at hs
        have t2 := beqt e2
        rw [← Option.some.inj hs]
        have hv2 : ∃ e, RefV I.2.2 ty.2.1 e V := by
          rcases hv with ⟨t, -⟩ | ⟨t, -⟩ | ⟨-, t⟩ | ⟨t, -⟩ | ⟨t, -⟩ | ⟨t, -⟩ | ⟨t, -⟩ | ⟨t, -⟩ | t <;> first | exact t | omega
        obtain ⟨e, g2⟩ := hv2
        have g3 := ref_rng hT hc2 g2
        refine rd_name (w := e) _ hR hc oi oj hj hi' hj' hV g3.1 g3.2 (Or.inr (Or.inr (Or.inr (Or.inr ⟨rfl, fun _ => Nat.lt_succ_self _, hc2, ?_⟩))))
        show RefV I.2.2 ty.2.1 (nset I.1 (g_n G) e (g_n G)) V
        rw [nset_at]; exact g2
    · rw [e1, cond_true] at hs
      have t1 := beqt e1
      rw [← Option.some.inj hs]
      have hv1 : ∃ x, V = .long x := by
        rcases hv with ⟨t, -⟩ | ⟨-, t⟩ | ⟨t, -⟩ | ⟨t, -⟩ | ⟨t, -⟩ | ⟨t, -⟩ | ⟨t, -⟩ | ⟨t, -⟩ | t <;> first | exact t | omega
      obtain ⟨x, rfl⟩ := hv1
      have lx := l2n_lt x
      refine rd_name (w := l2n x) _ hR hc oi oj hj hi' hj' hV (Nat.zero_le _) (by omega) (Or.inr (Or.inl ⟨rfl, fun _ => Nat.lt_succ_self _, x, rfl, ?_⟩))
      show l2n x = nset I.1 (g_n G) (l2n x) (g_n G)
      rw [nset_at]
  · rw [e0, cond_true] at hs
    have t0 := beqt e0
    rw [← Option.some.inj hs]
    have hv0 : ∃ x, V = .int x ∧ (ty.2.1 ≤ i2n x ∧ i2n x ≤ ty.2.2) := by
      rcases hv with ⟨-, t⟩ | ⟨t, -⟩ | ⟨t, -⟩ | ⟨t, -⟩ | ⟨t, -⟩ | ⟨t, -⟩ | ⟨t, -⟩ | ⟨t, -⟩ | t <;> first | exact t | omega
    obtain ⟨x, rfl, g1, g2⟩ := hv0
    by_cases e : ty.2.1 = ty.2.2
    · rw [y_new_eq e]
      have hsv : SVm I (g_h G).length (g_n G) (sk ty.2.1) (.int x) := sv_of_int (sk_IV (by omega))
      exact ⟨_, List.mem_cons_self, I.1, hsv, rm_cell hR (cell_mk hc oi oj hj hi' hj' hV hsv), nh_refl I G⟩
    · rw [y_new_ne e]
      refine rd_name (w := i2n x) _ hR hc oi oj hj hi' hj' hV g1 g2 (Or.inl ⟨rfl, fun _ => Nat.lt_succ_self _, x, rfl, ?_⟩)
      show i2n x = nset I.1 (g_n G) (i2n x) (g_n G)
      rw [nset_at]
end
