/-! ===== the heap outside of classes' objects changes ===== -/
theorem idx_I (w : SV) : isI (y_idx w) = true := by
  unfold y_idx
  cases Nat.beq w.1 6 <;> rfl
section
variable {B : BS} {I I' : IN} {n m : Nat} {G G' : SG} {h h' : AH} {os : List SOUT} {lv lv' : SLV} {st st' r : List SV} {L L' : LV} {S S' R : List Value} {c : Int} {a k kd i f : Nat}
theorem at_heap {ad : AD} {c i p : Nat} {v : Value} (hh : ∀ c i q, ad c i = some q → h'.1 q = h.1 q) : At ad h' c i p v ↔ At ad h c i p v :=
  ⟨fun ⟨q, k, vs, a1, a2, a3⟩ => ⟨q, k, vs, a1, (hh c i q a1).symm.trans a2, a3⟩, fun ⟨q, k, vs, a1, a2, a3⟩ => ⟨q, k, vs, a1, (hh c i q a1).trans a2, a3⟩⟩
theorem ts_heap {ad : AD} {np : Nat} {ex ho : Nat → Nat → Prop} (hT : TS ad h np ex ho) (hh : ∀ c i q, ad c i = some q → h'.1 q = h.1 q) (hn : h.2.1 ≤ h'.2.1) : TS ad h' np ex ho := by
  obtain ⟨t1, t2, t3, t4, t5, t6⟩ := hT
  refine ⟨fun c i q hc hq => ?_, t2, fun c i q hq => Nat.lt_of_lt_of_le (t3 c i q hq) hn, ⟨t4.1, t4.2.1, fun c p ty hc ht h5 i hA => t4.2.2 c p ty hc ht h5 i ((at_heap hh).mp hA)⟩, fun l el ident mx hl q hq => ?_, fun t k ht he => cpat_cong (fun m _ W => at_heap hh) (t6 t k ht he)⟩
  · obtain ⟨h1, k, vs, h2, h3⟩ := t1 c i q hc hq
    exact ⟨h1, k, vs, (hh c i q hq).trans h2, h3⟩
  · obtain ⟨mc, ed, sz, N, h1, h2, h3⟩ := t5 l el ident mx hl q hq
    refine ⟨mc, ed, sz, N, (hh l 0 q hq).trans h1, h2, ?_⟩
    rcases h3 with h3 | ⟨bq, us, g1, g2, g3, g4⟩
    · exact Or.inl h3
    · exact Or.inr ⟨bq, us, g1, g2, (hh _ _ bq g1).trans g3, g4⟩
theorem cell_heap {q : CE} (hc : CellOK2 I n m h q) (hh : ∀ c i q, I.2.2 c i = some q → h'.1 q = h.1 q) : CellOK2 I n m h' q := by
  obtain ⟨c1, c2, c3, c4⟩ := hc
  refine ⟨c1, c2, c3, ?_⟩
  rcases c4 with ⟨d1, i, j, V, d2, d3, d4, d5⟩ | d | ⟨d1, d2, d3, i, a, k, vs, d4, d5, d6, d7⟩ | ⟨d1, d2, d3, d4⟩
  · exact Or.inl ⟨d1, i, j, V, d2, d3, (at_heap hh).mpr d4, d5⟩
  · exact Or.inr (Or.inl d)
  · exact Or.inr (Or.inr (Or.inl ⟨d1, d2, d3, i, a, k, vs, d4, d5, (hh _ _ a d5).trans d6, d7⟩))
  · exact Or.inr (Or.inr (Or.inr ⟨d1, d2, d3, px_mono c3 (fun _ _ _ _ _ _ hA => (at_heap hh).mpr hA) d4⟩))
theorem sl_ne {a p : Nat} (e : h'.1 a = h.1 a) : sl h' a p = sl h a p := by
  unfold sl
  rw [e]
/-- an object made here is changed -/
theorem rm_set {o o' : SC} {vs' : List Value} (hR : RM B I G h) (hk : (g_h G)[k]? = some (kd, o)) (hlt : k < (g_h G).length) (h30 : kd < 30) (hnc : ∀ c i, I.2.2 c i ≠ some (I.2.1 k)) (hv : CMr I (g_h G).length (g_n G) o' vs') : RM B I (upH G ((g_h G).set k (kd, o'))) (am_set h (I.2.1 k) (kd, vs')) := by
  obtain ⟨hg, hH, hRa, hT, hX, hC, s1, s2, s3, s4, s5, s6, s7⟩ := hR
  have hh : ∀ c i q, I.2.2 c i = some q → (am_set h (I.2.1 k) (kd, vs')).1 q = h.1 q := fun c i q hq => am_ne (fun e => hnc c i (by rw [hq, e]))
  have hlen : ((g_h G).set k (kd, o')).length = (g_h G).length := List.length_set
  show GK I.1 G ∧ HK B I ((g_h G).set k (kd, o')).length (g_n G) ((g_h G).set k (kd, o')) (g_c G) (g_x G) (g_k G) (g_u G) (g_q G) (g_p G) _
  rw [hlen]
  refine ⟨hg, fun j o2 hj => ?_, hRa, ts_heap hT hh (Nat.le_refl _), hX, fun x hx => cell_heap (hC x hx) hh, fun a ha hb => ?_, fun c i a p hc hb hp => ?_, s3, s4, s5, s6, s7⟩
  · by_cases e : j = k
    · subst e
      rw [List.getElem?_set_self hlt] at hj
      cases hj
      exact Or.inr ⟨h30, hnc, vs', am_at _ _ _, hv⟩
    · rw [List.getElem?_set_ne (fun e2 => e e2.symm)] at hj
      rcases hH j o2 hj with e1 | ⟨e1, e2, vs, e3, e4⟩
      · exact Or.inl e1
      · refine Or.inr ⟨e1, e2, vs, ?_, e4⟩
        have hjl : j < (g_h G).length := (List.getElem?_eq_some_iff.mp hj).1
        exact (am_ne (fun e5 => e (hRa.2 j k hjl hlt e5))).trans e3
  · have := (hRa.1 k hlt).1
    exact (am_ne (by omega)).trans (s1 a ha hb)
  · exact (sl_ne (hh c i a (s3 c i a hc hb))).trans (s2 c i a p hc hb hp)
/-- an object is made -/
theorem rm_push {o : SC} {vs : List Value} {u : Nat} (hR : RM B I G h) (h30 : kd < 30) (hv : CMr I (g_h G).length (g_n G) o vs) : ∃ I', Gr I G I' (y_mk G (kd, o) u) ∧ (RM B I' (y_mk G (kd, o) u) (am_push h (kd, vs) u) ∧ (SVm I' (g_h (y_mk G (kd, o) u)).length (g_n (y_mk G (kd, o) u)) (5, (g_h G).length, 0) (.ref h.2.1) ∧ I'.2.2 = I.2.2)) := by
  obtain ⟨hg, hH, hRa, hT, hX, hC, s1, s2, s3, s4, s5, s6, s7⟩ := hR
  have hh : ∀ c i q, I.2.2 c i = some q → (am_push h (kd, vs) u).1 q = h.1 q := fun c i q hq => if_neg (by have := hT.2.2.1 c i q hq; omega)
  have ra_ag : Ag (g_h G).length I.2.1 (fun j => if j = (g_h G).length then h.2.1 else I.2.1 j) := fun j hj => if_neg (by omega)
  have ra_at : (fun j => if j = (g_h G).length then h.2.1 else I.2.1 j) (g_h G).length = h.2.1 := if_pos rfl
  generalize (fun j => if j = (g_h G).length then h.2.1 else I.2.1 j) = ra at ra_ag ra_at
  have hlen : (g_h G ++ [(kd, o)]).length = (g_h G).length + 1 := by rw [List.length_append]; rfl
  have hup : ∀ {s : SV} {v : Value}, SVm I (g_h G).length (g_n G) s v → SVm (I.1, ra, I.2.2) ((g_h G).length + 1) (g_n G) s v := fun hs => sv_up hs (by omega) (Nat.le_refl _) (fun _ _ => rfl) ra_ag (fun _ _ _ _ e => e)
  have lup : ∀ {l : List SV} {vs : List Value}, LM I (g_h G).length (g_n G) l vs → LM (I.1, ra, I.2.2) ((g_h G).length + 1) (g_n G) l vs := fun hs => lm_up hs (by omega) (Nat.le_refl _) (fun _ _ => rfl) ra_ag (fun _ _ _ _ e => e)
  have cup : ∀ {o : SC} {vs : List Value}, CMr I (g_h G).length (g_n G) o vs → CMr (I.1, ra, I.2.2) ((g_h G).length + 1) (g_n G) o vs := by
    intro o vs hc
    cases o with
    | inl q => exact hc
    | inr l => exact lup hc
  refine ⟨(I.1, ra, I.2.2), ⟨fun _ _ => rfl, Nat.le_refl _, ra_ag, (by show (g_h G).length ≤ (g_h G ++ [(kd, o)]).length; omega), fun _ _ _ _ e => e⟩, ?_, ?_, rfl⟩
  · show GK I.1 G ∧ HK B (I.1, ra, I.2.2) (g_h G ++ [(kd, o)]).length (g_n G) (g_h G ++ [(kd, o)]) (g_c G) (g_x G) (g_k G) (g_u G + u) (g_q G + 1) (g_p G) _
    rw [hlen]
    have r1 := hRa.1
    refine ⟨hg, fun j o2 hj => ?_, ⟨fun j hj => ?_, fun j j' hj hj' e => ?_⟩, ts_heap hT hh (Nat.le_succ _), hX, fun x hx => ?_, fun a ha hb => ?_, fun c i a p hc hb hp => ?_, s3, s4, ?_, ?_, ?_⟩
    · by_cases e : j < (g_h G).length
      · rw [List.getElem?_append_left e] at hj
        rcases hH j o2 hj with ⟨e1, w, e2, e3, e4⟩ | ⟨e1, e2, vs, e3, e4⟩
        · refine Or.inl ⟨e1, w, e2, e3, ?_⟩
          show SVm _ _ _ w (.ref (ra j))
          rw [ra_ag j e]
          exact hup e4
        · refine Or.inr ⟨e1, ?_, vs, ?_, cup e4⟩
          · show ∀ c i, I.2.2 c i ≠ some (ra j)
            rw [ra_ag j e]
            exact e2
          · show (am_push h _ u).1 (ra j) = _
            rw [ra_ag j e]
            have := (r1 j e).2
            exact (if_neg (by omega)).trans e3
      · rw [List.getElem?_append_right (by omega)] at hj
        have e5 : j = (g_h G).length := by
          have := (List.getElem?_eq_some_iff.mp hj).1
          rw [List.length_singleton] at this
          omega
        rw [e5, Nat.sub_self] at hj
        cases hj
        refine Or.inr ⟨h30, ?_, vs, ?_, cup hv⟩
        · show ∀ c i, I.2.2 c i ≠ some (ra j)
          intro c i hq
          rw [e5, ra_at] at hq
          have := hT.2.2.1 c i _ hq
          omega
        · show (am_push h _ u).1 (ra j) = _
          rw [e5, ra_at]
          exact if_pos rfl
    · show _ ≤ ra j ∧ ra j < h.2.1 + 1
      by_cases e : j < (g_h G).length
      · rw [ra_ag j e]
        have := r1 j e
        omega
      · rw [show j = (g_h G).length by omega, ra_at]
        omega
    · have e : ra j = ra j' := e
      by_cases e1 : j < (g_h G).length
      · by_cases e2 : j' < (g_h G).length
        · rw [ra_ag j e1, ra_ag j' e2] at e
          exact hRa.2 j j' e1 e2 e
        · rw [ra_ag j e1, show j' = (g_h G).length by omega, ra_at] at e
          have := r1 j e1
          omega
      · by_cases e2 : j' < (g_h G).length
        · rw [ra_ag j' e2, show j = (g_h G).length by omega, ra_at] at e
          have := r1 j' e2
          omega
        · omega
    · have c0 := cell_heap (hC x hx) hh
      obtain ⟨c1, c2, c3, c4⟩ := c0
      refine ⟨c1, c2, c3, ?_⟩
      rcases c4 with ⟨d1, i, j, V, d2, d3, d4, d5⟩ | d | d
      · exact Or.inl ⟨d1, i, j, V, d2, d3, d4, hup d5⟩
      · exact Or.inr (Or.inl d)
      · exact Or.inr (Or.inr d)
    · exact (if_neg (by omega)).trans (s1 a ha hb)
    · exact (sl_ne (hh c i a (s3 c i a hc hb))).trans (s2 c i a p hc hb hp)
    · show h.2.1 + 1 ≤ _
      omega
    · show h.2.2 + u ≤ _
      omega
    · show _ ≤ h.2.1 + 1
      omega
  · refine Or.inr (Or.inr (Or.inr (Or.inl ⟨rfl, ?_, ?_⟩)))
    · show (g_h G).length < (g_h G ++ [(kd, o)]).length
      omega
    · show Value.ref h.2.1 = .ref (ra (g_h G).length)
      rw [ra_at]
end
