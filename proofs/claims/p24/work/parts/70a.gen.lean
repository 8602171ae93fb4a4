/-! ===== states made smaller, states brought back to older names ===== -/
section
variable {B : BS} {I I' : IN} {n m n' m' : Nat} {G G' : SG} {h h' : AH} {lv lv' : SLV} {L L' : LV} {c : Int} {a k kd i f : Nat} {s : SV} {v : Value}
theorem sc_K {b : AD × AH} {K K' : List Nat} {u q : Nat} (hs : Sc b I K u q h) (hk : ∀ x, x ∈ K → x ∈ K') : Sc b I K' u q h :=
  ⟨hs.1, fun c i a p hc ha hp => hs.2.1 c i a p hc ha (fun e => hp (hk _ e)), hs.2.2⟩
theorem rm_sub {C : List CE} {K : List Nat} (hR : RM B I G h) (hC : ∀ x, x ∈ C → x ∈ g_c G) (hK : ∀ x, x ∈ g_k G → x ∈ K) : RM B I (upX (upC G C) (g_x G) K) h := by
  obtain ⟨hg, h1, h2, h3, h4, h5, h6⟩ := hR
  exact ⟨hg, h1, h2, h3, h4, fun x hx => h5 x (hC x hx), sc_K h6 hK⟩
/-- the names of a value are old -/
noncomputable def okS (n m : Nat) (s : SV) : Prop := (s.1 ≤ 3 → okn m s) ∧ ((s.1 = 5 → s.2.1 < n) ∧ (6 ≤ s.1 → okn m (y_idx s) ∧ s.2.1 < 1000))
theorem sv_okS (hs : SVm I n m s v) : okS n m s := by
  refine ⟨fun h1 => ?_, fun h1 => ?_, fun h1 => ?_⟩
  · rcases hs with ⟨a, b, -⟩ | ⟨a, b, -⟩ | ⟨a, -⟩ | ⟨a, -⟩ | ⟨a, -⟩
    · exact b
    · exact b
    · omega
    · omega
    · have := tag_T a; omega
  · exact (sv_raw hs h1).1
  · have := sv_typ hs (Nat.ble_eq_true_of_le h1)
    exact ⟨this.1, this.2.1⟩
theorem sv_down (hs : SVm I' n' m' s v) (ho : okS n m s) (h1 : Ag m I.1 I'.1) (h2 : Ag n I.2.1 I'.2.1) : SVm (I.1, I.2.1, I'.2.2) n m s v := by
  rcases hs with ⟨a, b, x, c, d⟩ | ⟨a, b, x, c, d⟩ | hs | ⟨a, b, c⟩ | ⟨a, b, c, d⟩
  · have o := ho.1 (by have := tag_I a; omega)
    exact Or.inl ⟨a, o, x, c, by rw [sval_ag o h1] at d; exact d⟩
  · have o := ho.1 (by have := tag_L a; omega)
    exact Or.inr (Or.inl ⟨a, o, x, c, by rw [sval_ag o h1] at d; exact d⟩)
  · exact Or.inr (Or.inr (Or.inl hs))
  · have o := ho.2.1 a
    exact Or.inr (Or.inr (Or.inr (Or.inl ⟨a, o, by rw [h2 _ o] at c; exact c⟩)))
  · have o := ho.2.2 (tag_T a)
    exact Or.inr (Or.inr (Or.inr (Or.inr ⟨a, o.1, o.2, by rw [sval_ag o.1 h1] at d; exact d⟩)))
theorem lm_okS {l : List SV} {vs : List Value} (hs : LM I n m l vs) : ∀ s, s ∈ l → okS n m s := by
  induction l generalizing vs with
  | nil => intro s hs; cases hs
  | cons x r ih =>
    obtain ⟨v, t, rfl, h1, h2⟩ := lm_cons hs
    intro s hs
    rcases List.mem_cons.mp hs with rfl | hs
    · exact sv_okS h1
    · exact ih h2 s hs
theorem lm_down {l : List SV} {vs : List Value} (hs : LM I' n' m' l vs) (ho : ∀ s, s ∈ l → okS n m s) (h1 : Ag m I.1 I'.1) (h2 : Ag n I.2.1 I'.2.1) : LM (I.1, I.2.1, I'.2.2) n m l vs := by
  induction l generalizing vs with
  | nil => rw [lm_nil hs]; exact True.intro
  | cons x r ih =>
    obtain ⟨v, t, rfl, h3, h4⟩ := lm_cons hs
    exact ⟨sv_down h3 (ho _ List.mem_cons_self) h1 h2, ih h4 (fun s hs => ho s (List.mem_cons_of_mem _ hs))⟩
noncomputable def okC (n m : Nat) (q : CE) : Prop := okn m q.2.1 ∧ (okn m q.2.2.1 ∧ (okS n m q.2.2.2))
theorem cell_okC {q : CE} (hc : CellOK2 I n m h q) : okC n m q := by
  obtain ⟨c1, c2, c3, c4⟩ := hc
  refine ⟨c1, c2, ?_⟩
  rcases c4 with ⟨-, -, -, V, -, -, -, d5⟩ | ⟨-, d2, d3, -⟩ | ⟨-, d2, d3, -⟩ | ⟨-, d2, d3, -⟩
  · exact sv_okS d5
  · have := tag_I d2
    exact ⟨fun _ => d3, fun e => by omega, fun e => by omega⟩
  · have := tag_I d2
    exact ⟨fun _ => d3, fun e => by omega, fun e => by omega⟩
  · have := tag_I d2
    exact ⟨fun _ => d3, fun e => by omega, fun e => by omega⟩
theorem cell_down {q : CE} (hc : CellOK2 I' n' m' h q) (ho : okC n m q) (h1 : Ag m I.1 I'.1) (h2 : Ag n I.2.1 I'.2.1) : CellOK2 (I.1, I.2.1, I'.2.2) n m h q := by
  obtain ⟨-, -, c3, c4⟩ := hc
  obtain ⟨o1, o2, o3⟩ := ho
  refine ⟨o1, o2, c3, ?_⟩
  have e1 : sval I'.1 q.2.1 = sval I.1 q.2.1 := sval_ag o1 h1
  have e2 : sval I'.1 q.2.2.1 = sval I.1 q.2.2.1 := sval_ag o2 h1
  rw [e1, e2] at c4
  rcases c4 with ⟨d1, i, j, V, d2, d3, d4, d5⟩ | ⟨d1, d2, d3, d4⟩ | ⟨d1, d2, d3, i, a, k, vs, d4, d5, d6, d7⟩ | ⟨d1, d2, d3, d4⟩
  · exact Or.inl ⟨d1, i, j, V, d2, d3, d4, sv_down d5 o3 h1 h2⟩
  · have o4 := o3.1 (by have := tag_I d2; omega)
    rw [sval_ag o4 h1] at d4
    exact Or.inr (Or.inl ⟨d1, d2, o4, d4⟩)
  · have o4 := o3.1 (by have := tag_I d2; omega)
    rw [sval_ag o4 h1] at d7
    exact Or.inr (Or.inr (Or.inl ⟨d1, d2, o4, i, a, k, vs, d4, d5, d6, d7⟩))
  · have o4 := o3.1 (by have := tag_I d2; omega)
    rw [sval_ag o4 h1] at d4
    exact Or.inr (Or.inr (Or.inr ⟨d1, d2, o4, d4⟩))
/-- a later state, seen by an earlier one's names -/
theorem rm_down (h0 : RM B I G h) (hR : RM B I' G' h') (h1 : Ag (g_n G) I.1 I'.1) (h2 : Ag (g_h G).length I.2.1 I'.2.1) (eh : g_h G' = g_h G) (eu : g_u G' = g_u G) (eq : g_q G' = g_q G) (ex : g_x G' = g_x G) (ep : g_p G' = g_p G) (hk : ∀ x, x ∈ g_k G' → x ∈ g_k G) (hc : ∀ x, x ∈ g_c G → CellOK2 I' (g_h G').length (g_n G') h' x) : RM B (I.1, I.2.1, I'.2.2) G h' := by
  obtain ⟨hg, hH, hRa, hT, hX, hC, -⟩ := h0
  obtain ⟨hg', hH', hRa', hT', hX', hC', hs'⟩ := hR
  rw [eh] at hH' hRa'
  refine ⟨hg, fun k o hk => ?_, ⟨fun k hk => ?_, fun k j hk hj e => ?_⟩, ?_, hX, fun x hx => cell_down (hc x hx) (cell_okC (hC x hx)) h1 h2, ?_⟩
  · have hlt : k < (g_h G).length := (List.getElem?_eq_some_iff.mp hk).1
    have er : I'.2.1 k = I.2.1 k := h2 k hlt
    rcases hH' k o hk with ⟨a1, w, a2, a3, a4⟩ | ⟨a1, a2, vs, a3, a4⟩
    · rcases hH k o hk with ⟨b1, w', b2, b3, b4⟩ | ⟨b1, -⟩
      · rw [a2] at b2
        injection b2 with b2
        injection b2 with b2
        subst b2
        refine Or.inl ⟨a1, w, a2, a3, ?_⟩
        rw [er] at a4
        exact sv_down a4 (sv_okS b4) h1 h2
      · omega
    · refine Or.inr ⟨a1, ?_, vs, ?_, ?_⟩
      · show ∀ c i, I'.2.2 c i ≠ some (I.2.1 k)
        rw [← er]; exact a2
      · show h'.1 (I.2.1 k) = _
        rw [← er]; exact a3
      · obtain ⟨o1, o2⟩ := o
        cases o2 with
        | inl q => exact a4
        | inr l =>
          rcases hH k _ hk with ⟨b1, -⟩ | ⟨b1, -, ws, -, b4⟩
          · dsimp only at b1 a1; omega
          · exact lm_down (l := l) a4 (lm_okS (l := l) b4) h1 h2
  · have := hRa'.1 k hk
    rw [h2 k hk] at this
    exact this
  · refine hRa'.2 k j hk hj ?_
    rw [h2 k hk, h2 j hj]
    exact e
  · rw [ep, ex] at hT'
    refine ts_ex hT' fun t k he => ?_
    exact (exg_ag hX h1).mp he
  · rw [eu, eq] at hs'
    obtain ⟨s1, s2⟩ := hs'
    exact sc_K ⟨s1, s2⟩ hk
theorem gr_close : Gr I G I (y_close G) := ⟨fun _ _ => rfl, Nat.le_refl _, fun _ _ => rfl, Nat.le_refl _, fun _ _ _ _ e => e⟩
/-- places that certificates name -/
noncomputable def PlV (I : IN) (m : Nat) (h : AH) (p : Nat × SV × SV) (V : Value) : Prop := p.1 < 1000 ∧ (okn m p.2.1 ∧ (okn m p.2.2 ∧ (isI p.2.1 = true ∧ (isI p.2.2 = true ∧ ∃ a b, sval I.1 p.2.1 = 2147483648 + a ∧ (sval I.1 p.2.2 = 2147483648 + b ∧ At I.2.2 h p.1 a b V)))))
theorem plv_ag {nu : Nat → Nat} {p : Nat × SV × SV} {V : Value} (hp : PlV I m h p V) (hm : m ≤ m') (hu : Ag m I.1 nu) : PlV (nu, I.2) m' h p V := by
  obtain ⟨p1, p2, p3, p4, p5, a, b, p6, p7, p8⟩ := hp
  exact ⟨p1, okn_up p2 hm, okn_up p3 hm, p4, p5, a, b, by rw [sval_ag p2 hu]; exact p6, by rw [sval_ag p3 hu]; exact p7, p8⟩
theorem sgl_at {c : Nat} (hR : RM B I G h) (hs : sgl c = true) : ∃ q k vs, I.2.2 c 0 = some q ∧ (h.1 q = some (k, vs) ∧ LenOK c vs.length) := by
  obtain ⟨q, hq⟩ := hR.2.2.2.1.2.2.2.1.2.1 c hs
  obtain ⟨-, k, vs, h1, h2, h3, -⟩ := hR.2.2.2.1.1 c 0 q (sgl_lt hs) hq
  exact ⟨q, k, vs, hq, h1, h3⟩
theorem pl_there (hR : RM B I G h) (hL : LVM I (g_h G).length (g_n G) lv L) (hs : pl_chk m f lv G = true) : ∃ V, PlV I (g_n G) h (h_place m f lv) V := by
  unfold pl_chk at hs
  unfold h_place
  cases m0 : Nat.beq m 0
  · rw [m0, cond_false] at hs
    replace hs := bifb hs
    obtain ⟨m1, hs⟩ := hs
    have m2 : Nat.beq m 2 = false := by rw [beqt m1]; rfl
    rw [m2, cond_false, cond_false]
    split at hs
    · rename_i v hv
      obtain ⟨V, e1, e2⟩ := hL 0 v hv
      obtain ⟨f1, hs⟩ := and2 hs
      obtain ⟨f2, hs⟩ := and2 hs
      obtain ⟨f3, f4⟩ := and2 hs
      have f2 := blet f2
      have f4 := blet f4
      obtain ⟨o1, o2, o3⟩ := sv_typ e2 f1
      have b := (itv_ok hR.1.1 (y_idx v)).1
      rcases o3 with ⟨e, -⟩ | ⟨e, q, e3, -⟩
      · omega
      · obtain ⟨-, k, vs, h1, h2, h3, h4⟩ := hR.2.2.2.1.1 _ _ _ o2 e3
        have hl := h3.1 (beqt f3)
        refine ⟨vs[f], ?_⟩
        exact ⟨o2, o1, sk_okn, idx_I v, rfl, _, f, by rw [Nat.add_sub_cancel' e], by rw [sk_val], q, k, vs, e3, h1, List.getElem?_eq_getElem (by omega)⟩
    · cases hs
  · rw [m0, cond_true] at hs
    have m2 : Nat.beq m 2 = false := by rw [beqt m0]; rfl
    rw [m2, cond_false, cond_true]
    obtain ⟨f1, hs⟩ := and2 hs
    obtain ⟨q, k, vs, q1, q2, q3⟩ := sgl_at hR f1
    have hlt : f % 128 < vs.length := by
      cases c0 : Nat.beq (cdm (f / 128)) 0
      · rw [c0, cond_false] at hs
        obtain ⟨g1, g2⟩ := and2 hs
        have g1 := blet g1
        have g2 := blet g2
        have c0 := beqf c0
        have := q3.2.1 (by omega) g1
        omega
      · rw [c0, cond_true] at hs
        have := q3.1 (beqt c0)
        have := blet hs
        omega
    exact ⟨vs[f % 128], sgl_lt f1, sk_okn, sk_okn, rfl, rfl, 0, f % 128, by rw [sk_val], by rw [sk_val], q, k, vs, q1, q2, List.getElem?_eq_getElem hlt⟩
end
