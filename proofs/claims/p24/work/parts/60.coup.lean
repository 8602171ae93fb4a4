/-! ===== couplings; reads ===== -/
noncomputable def mOK (lim : Nat) (m : Nat × Nat × Nat) : Bool := Nat.ble 2147483648 m.2.2 && (Nat.ble m.1 999 && (Nat.ble m.2.1 1 && ((Nat.beq m.2.1 0 || !(Nat.beq (m.1 + 1) lim)) && (bif Nat.beq m.2.1 0 then Nat.beq (cdm m.1) 0 else !(Nat.beq (cdm m.1) 0)))))
theorem ck_tg : cpt.all (fun c => c.2.1.all (fun m => Nat.ble (tgc m) 999 && Nat.ble (cdk (tgc m)) 29)) = true := by decide +kernel
theorem cp_tg {t : Nat} {m : Nat × Nat × Nat} (h : m ∈ (cp_at t).2.1) : tgc m < 1000 ∧ cdk (tgc m) < 30 := by
  unfold cp_at at h
  by_cases ht : t < cpt.length
  · rw [List.getD_eq_getElem?_getD, List.getElem?_eq_getElem ht, Option.getD_some] at h
    obtain ⟨h1, h2⟩ := and2 (List.all_eq_true.mp (List.all_eq_true.mp ck_tg _ (List.getElem_mem ht)) m h)
    have := blet h1
    have := blet h2
    omega
  · rw [List.getD_eq_getElem?_getD, List.getElem?_eq_none (by omega)] at h
    cases h
theorem ck_cp : cpt.all (fun c => c.2.1.all (mOK c.1)) = true := by decide +kernel
theorem cp_ok {t : Nat} {m : Nat × Nat × Nat} (h : m ∈ (cp_at t).2.1) : 2147483648 ≤ m.2.2 ∧ (m.1 < 1000 ∧ (m.2.1 ≤ 1 ∧ ((m.1 + 1 = (cp_at t).1 → m.2.1 = 0) ∧ (m.2.1 = 0 ↔ cdm m.1 = 0)))) := by
  unfold cp_at at h ⊢
  by_cases ht : t < cpt.length
  · rw [List.getD_eq_getElem?_getD, List.getElem?_eq_getElem ht, Option.getD_some] at h ⊢
    have h1 := List.all_eq_true.mp (List.all_eq_true.mp ck_cp _ (List.getElem_mem ht)) m h
    obtain ⟨h1, h2⟩ := and2 h1
    obtain ⟨h2, h3⟩ := and2 h2
    obtain ⟨h3, h4⟩ := and2 h3
    obtain ⟨h4, h5⟩ := and2 h4
    have a1 := blet h1
    have a2 := blet h2
    have a3 := blet h3
    refine ⟨a1, by omega, a3, fun e => ?_, ?_⟩
    · rcases or2 h4 with k | k
      · exact beqt k
      · rw [e, Nat.beq_refl] at k; cases k
    · cases hb : Nat.beq m.2.1 0
      · rw [hb, cond_false] at h5
        refine ⟨fun e => absurd e (beqf hb), fun e => ?_⟩
        rw [e] at h5; cases h5
      · rw [hb, cond_true] at h5
        exact ⟨fun _ => beqt h5, fun _ => beqt hb⟩
  · rw [List.getD_eq_getElem?_getD, List.getElem?_eq_none (by omega)] at h
    cases h
section
variable {B : BS} {I : IN} {G G' : SG} {h : AH} {nu' : Nat → Nat}
theorem sv_int' {n m : Nat} {s : SV} {x : Int32} (hs : SVm I n m s (.int x)) : IV I.1 m s x := by
  rcases hs with ⟨a, b, y, c, d⟩ | ⟨-, -, y, c, -⟩ | ⟨-, c⟩ | ⟨-, -, c⟩ | ⟨-, -, -, c⟩
  · cases c; exact ⟨a, b, d⟩
  · cases c
  · cases c
  · cases c
  · rcases c with ⟨-, c⟩ | ⟨-, q, -, c⟩ <;> cases c
theorem sv_long' {n m : Nat} {s : SV} {x : Int64} (hs : SVm I n m s (.long x)) : LV' I.1 m s x := by
  rcases hs with ⟨-, -, y, c, -⟩ | ⟨a, b, y, c, d⟩ | ⟨-, c⟩ | ⟨-, -, c⟩ | ⟨-, -, -, c⟩
  · cases c
  · cases c; exact ⟨a, b, d⟩
  · cases c
  · cases c
  · rcases c with ⟨-, c⟩ | ⟨-, q, -, c⟩ <;> cases c
theorem sdiff_ok {a b : SV} (hR : RM B I G h) (oa : okn (g_n G) a) (ob : okn (g_n G) b) (hs : y_sdiff G a b = true) : sval I.1 a ≠ sval I.1 b := by
  have ba := itv_ok hR.1.1 a
  have bb := itv_ok hR.1.1 b
  unfold y_sdiff at hs
  dsimp only at hs
  cases e1 : Nat.ble ((itv G a).2 + 1) (itv G b).1 || Nat.ble ((itv G b).2 + 1) (itv G a).1
  · rw [e1, cond_false] at hs
    cases e2 : y_le G a b 1 1
    · rw [e2, cond_false] at hs
      have := y_le_ok hR.1 ob oa hs
      omega
    · have := y_le_ok hR.1 oa ob e2
      omega
  · rcases or2 e1 with k | k
    · have := blet k; omega
    · have := blet k; omega
theorem bifb {p q : Bool} (h : (bif p then q else false) = true) : p = true ∧ q = true := by
  cases p
  · cases h
  · exact ⟨rfl, h⟩
theorem x_free_ok {t : Nat} {e : SV} {k : Nat} (hR : RM B I G h) (oe : okn (g_n G) e) (he : sval I.1 e = 2147483648 + k) : ∀ {X : List (Nat × SV)}, (∀ x, x ∈ X → okn (g_n G) x.2) → x_free G t e X = true → ¬ ExG I.1 X t k := by
  intro X
  induction X with
  | nil => rintro - - ⟨e', h1, -⟩; cases h1
  | cons q r ih =>
    intro hX hs
    unfold x_free at hs
    have hX' : ∀ x, x ∈ r → okn (g_n G) x.2 := fun x hx => hX x (List.mem_cons_of_mem _ hx)
    rintro ⟨e', h1, h2⟩
    cases hb : Nat.beq q.1 t
    · rw [hb, cond_false] at hs
      rcases List.mem_cons.mp h1 with h1 | h1
      · rw [← h1] at hb
        exact absurd (Nat.beq_refl t) (by rw [hb]; exact Bool.false_ne_true)
      · exact ih hX' hs ⟨e', h1, h2⟩
    · rw [hb, cond_true] at hs
      replace hs := bifb hs
      rcases List.mem_cons.mp h1 with h1 | h1
      · have := sdiff_ok hR oe (hX q List.mem_cons_self) hs.1
        rw [← h1] at this
        exact this (he.trans h2.symm)
      · exact ih hX' hs.2 ⟨e', h1, h2⟩
theorem cnt_ok {c : Nat} {n : SV} (hR : RM B I G h) (hc : cnt_of G c = some n) : c < 1000 ∧ (isI n = true ∧ (okn (g_n G) n ∧ ∀ k, I.2.2 c k ≠ none ↔ 2147483648 + k < sval I.1 n)) := by
  obtain ⟨-, -, h3, h4⟩ := hR.2.2.2.2.2.1 _ (c_find_ok hc)
  rcases h4 with ⟨e, -⟩ | ⟨-, a, b, d⟩ | ⟨e, -⟩ | ⟨e, -⟩
  · cases e
  · exact ⟨h3, a, b, d⟩
  · cases e
  · exact absurd e (by show ¬ 10 ≤ 8; omega)
theorem cp_in_ok {lim c k : Nat} {e : SV} (hR : RM B I G h) (oe : okn (g_n G) e) (he : sval I.1 e = 2147483648 + k) (hl : lim = c + 1 → I.2.2 c k ≠ none) : (cp_in G lim c e = 1 → Inb I.2.2 lim k) ∧ (cp_in G lim c e = 0 → ¬ Inb I.2.2 lim k) := by
  unfold cp_in
  cases e0 : Nat.beq lim 0
  · rw [cond_false]
    have n0 := beqf e0
    cases e1 : Nat.beq lim (c + 1)
    · rw [cond_false]
      split
      · exact ⟨fun h => by omega, fun h => by omega⟩
      · rename_i n hn
        obtain ⟨-, hi, ho, hk⟩ := cnt_ok hR hn
        cases e2 : y_le G e n 1 2
        · rw [cond_false]
          cases e3 : y_le G n e 0 2
          · exact ⟨fun h => absurd h (by show ¬ (2 : Nat) = 1; omega), fun h => absurd h (by show ¬ (2 : Nat) = 0; omega)⟩
          · refine ⟨fun h => absurd h (by show ¬ (0 : Nat) = 1; omega), fun _ hb => ?_⟩
            have := y_le_ok hR.1 ho oe e3
            rcases hb with hb | hb
            · exact n0 hb
            · have := (hk k).mp hb
              omega
        · refine ⟨fun _ => Or.inr ((hk k).mpr ?_), fun h => absurd h (by show ¬ (1 : Nat) = 0; omega)⟩
          have := y_le_ok hR.1 oe ho e2
          omega
    · rw [cond_true]
      have e2 := beqt e1
      exact ⟨fun _ => Or.inr (by rw [e2, Nat.add_sub_cancel]; exact hl e2), fun h => absurd h (by show ¬ (1 : Nat) = 0; omega)⟩
  · rw [cond_true]
    exact ⟨fun _ => Or.inl (beqt e0), fun h => absurd h (by show ¬ (1 : Nat) = 0; omega)⟩
theorem pl_ok {t k : Nat} {m : Nat × Nat × Nat} {e : SV} {nu : Nat → Nat} {mm : Nat} (hm : m ∈ (cp_at t).2.1) (ie : isI e = true) (oe : okn mm e) (he : sval nu e = 2147483648 + k) :
    (cp_place m e).1 = (mplace m k).1 ∧ ((mplace m k).1 < 1000 ∧ (okn mm (cp_place m e).2.1 ∧ (okn mm (cp_place m e).2.2 ∧ (isI (cp_place m e).2.2 = true ∧ (isI (cp_place m e).2.1 = true ∧ (sval nu (cp_place m e).2.1 = 2147483648 + (mplace m k).2.1 ∧ sval nu (cp_place m e).2.2 = 2147483648 + (mplace m k).2.2)))))) := by
  obtain ⟨h1, h2, h3, -, -⟩ := cp_ok hm
  have hz : m.2.2 = 2147483648 + (m.2.2 - 2147483648) := by omega
  cases hb : Nat.beq m.2.1 0
  · have e1 : cp_place m e = (m.1, sk m.2.2, e) := by unfold cp_place; rw [hb]; rfl
    have e2 : mplace m k = (m.1, m.2.2 - 2147483648, k) := by unfold mplace; rw [hb]; rfl
    rw [e1, e2]
    exact ⟨rfl, h2, sk_okn, oe, ie, rfl, (sk_val (nu := nu)).trans hz, he⟩
  · have e1 : cp_place m e = (m.1, e, sk m.2.2) := by unfold cp_place; rw [hb]; rfl
    have e2 : mplace m k = (m.1, k, m.2.2 - 2147483648) := by unfold mplace; rw [hb]; rfl
    rw [e1, e2]
    exact ⟨rfl, h2, oe, sk_okn, rfl, ie, he, (sk_val (nu := nu)).trans hz⟩
noncomputable def GsOK (nu : Nat → Nat) (m : Nat) (gv : Nat → Nat) (gs : List (Nat × SV)) : Prop := ∀ q, q ∈ gs → isI q.2 = true ∧ (okn m q.2 ∧ sval nu q.2 = gv q.1)
theorem v_find_ok {g : Nat} {l : List (Nat × SV)} {v : SV} (h : v_find g l = some v) : (g, v) ∈ l := by
  induction l with
  | nil => cases h
  | cons q r ih =>
    unfold v_find at h
    cases hb : Nat.beq q.1 g
    · rw [hb, cond_false] at h; exact List.mem_cons_of_mem _ (ih h)
    · rw [hb, cond_true] at h
      have e : q = (g, v) := Prod.ext (beqt hb) (Option.some.inj h)
      rw [e]; exact List.mem_cons_self
theorem gs_nk {nu : Nat → Nat} {gv : Nat → Nat} {gs : List (Nat × SV)} {m m' : Nat} (h : GsOK nu m gv gs) (hm : m ≤ m') (hu : Ag m nu nu') : GsOK nu' m' gv gs := fun q hq => by
  obtain ⟨a, b, c⟩ := h q hq
  exact ⟨a, okn_up b hm, by rw [sval_ag b hu]; exact c⟩
theorem gs_add_ok {nu : Nat → Nat} {gv : Nat → Nat} {gs : List (Nat × SV)} {m g : Nat} {v : SV} (h : GsOK nu m gv gs) (h1 : isI v = true) (h2 : okn m v) (h3 : sval nu v = gv g) : GsOK nu m gv (gs_add g v gs) := by
  unfold gs_add
  split
  · exact h
  · intro q hq
    rcases List.mem_cons.mp hq with rfl | hq
    · exact ⟨h1, h2, h3⟩
    · exact h q hq
/-- a place's value and its number -/
noncomputable def EV (ad : AD) (m d : Nat × Nat × Nat) (V : Value) (w : Nat) : Prop := (Nat.ble d.1 99 = true ∧ ∃ x, V = .int x ∧ i2n x = w) ∨ (Nat.ble d.1 99 = false ∧ ∃ j q, V = .ref q ∧ (ad (tgc m) j = some q ∧ w = 2147483648 + j + en_off d))
theorem b99 {d : Nat × Nat × Nat} (h : Nat.ble d.1 99 = true) : Nat.ble d.1 299 = true := Nat.ble_eq_true_of_le (by have := blet h; omega)
theorem blef {a b : Nat} (h : Nat.ble a b = false) : b < a := by
  by_cases e : a ≤ b
  · rw [Nat.ble_eq_true_of_le e] at h; cases h
  · omega
theorem enok_lo {ad : AD} {k : Nat} {gv : Nat → Nat} {m d : Nat × Nat × Nat} (hb : Nat.ble d.1 299 = true) : EnOK ad h k gv m d ↔ ∃ V w, AtM ad h m k V ∧ (EV ad m d V w ∧ (w = gv (d.1 % 100) ∧ (d.2.1 ≤ w ∧ w ≤ d.2.2))) := by
  unfold EnOK EV
  cases h9 : Nat.ble d.1 99
  · rw [cond_false, hb, cond_true]
    constructor
    · rintro ⟨j, q, h1, h2, h3, h4⟩
      exact ⟨_, _, h1, Or.inr ⟨rfl, j, q, rfl, h2, rfl⟩, h3, h4⟩
    · rintro ⟨V, w, h1, ⟨e, -⟩ | ⟨-, j, q, rfl, h2, rfl⟩, h3, h4⟩
      · cases e
      · exact ⟨j, q, h1, h2, h3, h4⟩
  · rw [cond_true]
    constructor
    · rintro ⟨x, h1, h2, h3⟩
      exact ⟨_, _, h1, Or.inl ⟨rfl, x, rfl, rfl⟩, h2, h3⟩
    · rintro ⟨V, w, h1, ⟨-, x, rfl, rfl⟩ | ⟨e, -⟩, h3, h4⟩
      · exact ⟨x, h1, h3, h4⟩
      · cases e
theorem idx_I' (v : SV) : isI (y_idx v) = true := by
  unfold y_idx
  cases Nat.beq v.1 6 <;> rfl
/-- what a cell says of a reference's number -/
theorem ref_num {v : SV} {c j q : Nat} (hR : RM B I G h) (hs : SVm I (g_h G).length (g_n G) v (.ref q)) (hc : cdk c < 30) (hq : I.2.2 c j = some q) (hn : nnT G v = true) : isI (y_idx v) = true ∧ (okn (g_n G) (y_idx v) ∧ (sval I.1 (y_idx v) = 2147483648 + j ∧ v.2.1 = c)) := by
  obtain ⟨n1, n2⟩ := and2 hn
  obtain ⟨o1, o2, o3⟩ := sv_typ hs n1
  rcases o3 with ⟨-, e⟩ | ⟨o4, q', o5, o6⟩
  · cases e
  · cases o6
    rcases hR.2.2.2.1.2.1 _ _ _ _ _ hq o5 with ⟨e1, e2⟩ | ⟨⟨e, -⟩, -⟩
    · exact ⟨idx_I' v, o1, by omega, e1.symm⟩
    · omega
theorem mt_known_ok {all : Bool} {t k : Nat} {e : SV} {gv : Nat → Nat} (ie : isI e = true) (he : sval I.1 e = 2147483648 + k) : ∀ {ms : List (Nat × Nat × Nat)} {ds : List (Nat × Nat × Nat)} {G : SG} {gs : List (Nat × SV)}, (∀ m, m ∈ ms → m ∈ (cp_at t).2.1) → RM B I G h → okn (g_n G) e → GsOK I.1 (g_n G) gv gs → DC all I.2.2 h k gv ms ds → ∃ G' gs', mt_known all e G gs ms ds = some (G', gs') ∧ (RM B I G' h ∧ (NK I.1 G I.1 G' ∧ GsOK I.1 (g_n G') gv gs')) := by
  intro ms
  induction ms with
  | nil => intro ds G gs _ hR _ hg _; exact ⟨G, gs, by cases ds <;> rfl, hR, nk_refl hR.1, hg⟩
  | cons m ms ih =>
    intro ds G gs hm hR oe hg hD
    cases ds with
    | nil => exact ⟨G, gs, rfl, hR, nk_refl hR.1, hg⟩
    | cons d ds =>
      have hm' : ∀ m, m ∈ ms → m ∈ (cp_at t).2.1 := fun m hm2 => hm m (List.mem_cons_of_mem _ hm2)
      obtain ⟨hD1, hD2⟩ := hD
      rw [mt_known]
      cases ha : all || Nat.beq m.2.1 1
      · rw [cond_false]
        exact ih hm' hR oe hg hD2
      · rw [cond_true]
        have hE := hD1 ha
        obtain ⟨p1, p2, p3, p4, p5, p6, p7, p8⟩ := pl_ok (hm m List.mem_cons_self) ie oe he
        obtain ⟨tg1, tg2⟩ := cp_tg (hm m List.mem_cons_self)
        dsimp only
        split
        · exact ih hm' hR oe hg hD2
        · rename_i v hv
          have hfind : ∀ {V : Value}, AtM I.2.2 h m k V → SVm I (g_h G).length (g_n G) v V := fun {V} x1 => find_ok hR p5 p7 p8 (by rw [p1]; exact x1) hv
          unfold EnOK at hE
          cases b0 : Nat.ble d.1 99
          · rw [b0, cond_false] at hE
            rw [cond_false]
            cases b1 : Nat.ble d.1 299
            · rw [b1, cond_false] at hE
              rw [cond_false]
              cases b3 : Nat.beq d.1 300
              · rw [b3, cond_false] at hE
                rw [cond_false]
                cases b4 : Nat.beq d.1 400
                · rw [cond_false]
                  exact ih hm' hR oe hg hD2
                · rw [b4, cond_true] at hE
                  rw [cond_true]
                  obtain ⟨q, x1, -⟩ := hE
                  cases b5 : Nat.beq v.1 4
                  · rw [cond_false]
                    exact ih hm' hR oe hg hD2
                  · have := sv_null (hfind x1) (beqt b5)
                    cases this
              · rw [b3, cond_true] at hE
                rw [cond_true]
                cases b5 : nnT G v
                · rw [cond_false]
                  exact ih hm' hR oe hg hD2
                · obtain ⟨n1, n2⟩ := and2 b5
                  have n2 := blet n2
                  obtain ⟨o1, o2, o3⟩ := sv_typ (hfind hE) n1
                  have bv := itv_ok hR.1.1 (y_idx v)
                  rcases o3 with ⟨o4, -⟩ | ⟨-, q', -, o6⟩
                  · omega
                  · cases o6
            · rw [b1, cond_true] at hE
              rw [cond_true]
              obtain ⟨j, q, x1, x2, x3, x4, x5⟩ := hE
              cases b5 : Nat.beq v.1 4
              · rw [cond_false]
                cases b6 : nnT G v
                · rw [cond_false]
                  exact ih hm' hR oe hg hD2
                · rw [cond_true]
                  obtain ⟨i1, i2, i3, -⟩ := ref_num hR (hfind x1) tg2 x2 b6
                  have bv := itv_ok hR.1.1 (y_idx v)
                  rw [i3] at bv
                  have hn : (Nat.ble ((itv G (y_idx v)).2 + en_off d + 1) d.2.1 || Nat.ble (d.2.2 + 1) ((itv G (y_idx v)).1 + en_off d)) = false := by
                    cases hq : (Nat.ble ((itv G (y_idx v)).2 + en_off d + 1) d.2.1 || Nat.ble (d.2.2 + 1) ((itv G (y_idx v)).1 + en_off d))
                    · rfl
                    · rcases or2 hq with q | q
                      · have := blet q; omega
                      · have := blet q; omega
                  rw [hn, cond_false]
                  have k1 := nk_know (v := y_idx v) (lo := nmax (itv G (y_idx v)).1 (d.2.1 - en_off d)) (hi := nmin (itv G (y_idx v)).2 (d.2.2 - en_off d)) hR.1 (nmax_le (by omega) (by omega)) (nmin_ge (by omega) (by omega))
                  have hR1 := rm_nk' hR k1
                  have hg0 := gs_nk hg k1.2.2.1 k1.2.1
                  have hg1 : GsOK I.1 (g_n (y_know G (y_idx v) (nmax (itv G (y_idx v)).1 (d.2.1 - en_off d)) (nmin (itv G (y_idx v)).2 (d.2.2 - en_off d)))) gv (bif Nat.beq (en_off d) 0 then gs_add (d.1 % 100) (y_idx v) gs else gs) := by
                    cases b7 : Nat.beq (en_off d) 0
                    · exact hg0
                    · have e0 := beqt b7
                      exact gs_add_ok hg0 i1 (okn_nk i2 k1) (by omega)
                  obtain ⟨G', gs', r1, r2, r3, r4⟩ := ih hm' hR1 (okn_nk oe k1) hg1 hD2
                  exact ⟨G', gs', r1, r2, nk_trans k1 r3, r4⟩
              · have := sv_null (hfind x1) (beqt b5)
                cases this
          · rw [b0, cond_true] at hE
            rw [cond_true]
            obtain ⟨x, x1, x2, x3, x4⟩ := hE
            have em : d.1 % 100 = d.1 := Nat.mod_eq_of_lt (by have := blet b0; omega)
            rw [em] at x2
            obtain ⟨i1, i2, i3⟩ := sv_int' (hfind x1)
            have bv := itv_ok hR.1.1 v
            rw [← i3] at bv
            have hn : (Nat.ble ((itv G v).2 + 1) d.2.1 || Nat.ble (d.2.2 + 1) (itv G v).1) = false := by
              cases hq : (Nat.ble ((itv G v).2 + 1) d.2.1 || Nat.ble (d.2.2 + 1) (itv G v).1)
              · rfl
              · rcases or2 hq with q | q
                · have := blet q; omega
                · have := blet q; omega
            rw [hn, cond_false]
            have k1 := nk_know (v := v) (lo := nmax (itv G v).1 d.2.1) (hi := nmin (itv G v).2 d.2.2) hR.1 (nmax_le (by omega) (by omega)) (nmin_ge (by omega) (by omega))
            have hR1 := rm_nk' hR k1
            obtain ⟨G', gs', r1, r2, r3, r4⟩ := ih hm' hR1 (okn_nk oe k1) (gs_add_ok (gs_nk hg k1.2.2.1 k1.2.1) i1 (okn_nk i2 k1) (i3.symm.trans x2)) hD2
            exact ⟨G', gs', r1, r2, nk_trans k1 r3, r4⟩
theorem y_bin1 {x y : SV} (hx : isI x = true) (hy : isI y = true) : ∃ q, y_bin 1 x y G = some q := by
  unfold y_bin
  rw [hx, hy]
  dsimp only
  rw [show (true && true) = true from rfl, cond_true]
  cases Nat.beq (itv G x).1 (itv G x).2 && Nat.beq (itv G y).1 (itv G y).2
  · rw [cond_false, show Nat.beq 1 0 = false from rfl, Bool.false_and, cond_false]
    cases Nat.ble 1 1 && (Nat.beq (itv G y).1 2147483648 && Nat.beq (itv G y).2 2147483648)
    · rw [cond_false]
      have : ∃ v, y_rng 1 (itv G x).1 (itv G x).2 (itv G y).1 (itv G y).2 = some v := by
        unfold y_rng bnd
        simp only [show Nat.beq 1 3 = false from rfl, show Nat.beq 1 4 = false from rfl, show Nat.beq 1 6 = false from rfl, show Nat.beq 1 8 = false from rfl, show Nat.beq 1 0 = false from rfl, show Nat.beq 1 1 = true from rfl, cond_false, cond_true, Bool.false_and]
        cases (Nat.ble (itv G y).2 ((itv G x).1 + 2147483648) && Nat.ble ((itv G x).2 + 2147483648) ((itv G y).1 + 4294967295))
        · exact ⟨_, rfl⟩
        · exact ⟨_, rfl⟩
      obtain ⟨v, hv⟩ := this
      rw [hv]
      exact ⟨_, rfl⟩
    · exact ⟨_, rfl⟩
  · exact ⟨_, rfl⟩
theorem cntf_ok {c j q : Nat} {u : SV} (hR : RM B I G h) (iu : isI u = true) (ou : okn (g_n G) u) (hq : I.2.2 c j = some q) (hu : sval I.1 u = 2147483648 + j) : NK I.1 G I.1 (y_cntf G c u) := by
  unfold y_cntf
  split
  · rename_i n hn
    obtain ⟨-, n1, n2, n3⟩ := cnt_ok hR hn
    have := (n3 j).mp (by rw [hq]; exact fun e => by cases e)
    obtain ⟨G2, g1, g2⟩ := y_fact_ok (k := 1) hR.1 ou n2 (by omega)
    rw [g1]
    exact g2
  · exact nk_refl hR.1
/-- a place's value out of its group's number -/
theorem en_val_ok {t w : Nat} {m d : Nat × Nat × Nat} {v : SV} {V : Value} (hR : RM B I G h) (hm : m ∈ (cp_at t).2.1) (iv : isI v = true) (ov : okn (g_n G) v) (hv : sval I.1 v = w) (hV : EV I.2.2 m d V w) : ∃ nu', NK I.1 G nu' (en_val G m d v).2 ∧ SVm (nu', I.2) (g_h G).length (g_n (en_val G m d v).2) (en_val G m d v).1 V := by
  obtain ⟨tg1, tg2⟩ := cp_tg hm
  rcases hV with ⟨b0, x, rfl, hx⟩ | ⟨b0, j, q, rfl, hq, hw⟩
  · unfold en_val
    rw [b0, cond_true]
    exact ⟨I.1, nk_refl hR.1, sv_of_int ⟨iv, ov, hx.trans hv.symm⟩⟩
  · unfold en_val
    rw [b0, cond_false]
    have hj : j < 1048576 := (hR.2.2.2.1.1 _ j q tg1 hq).1
    cases b1 : Nat.ble d.1 199
    · rw [cond_false]
      have eo : en_off d = 1 := by unfold en_off; rw [b1]; rfl
      obtain ⟨⟨u, G2⟩, hu⟩ := y_bin1 (G := G) (x := v) (y := sk 2147483649) iv rfl
      rw [hu]
      dsimp only
      have hX : IV I.1 (g_n G) v (nI (j + 1)) := ⟨iv, ov, by rw [nI_ok (by omega)]; omega⟩
      have hY : IV I.1 (g_n G) (sk 2147483649) 1 := sk_IV c_1
      obtain ⟨nu', z, z1, z2, z3⟩ := y_bin_ok hR.1 hX hY hu
      have ez : i2n z = 2147483648 + j := by
        have e1 : z = nI (j + 1) - 1 := (Option.some.inj z1).symm
        have c1 := c_1
        rw [e1, kb_sub, nI_ok (by omega), c1]
        omega
      have hR2 := rm_nk hR z2
      have eu : sval nu' u = 2147483648 + j := z3.2.2.symm.trans ez
      have k2 := cntf_ok (I := (nu', I.2)) (c := tgc m) hR2 z3.1 z3.2.1 hq eu
      refine ⟨nu', nk_trans z2 k2, ?_⟩
      exact sv_yref (I := (nu', I.2)) z3.1 (okn_nk z3.2.1 k2) tg1 (by show RefV I.2.2 (tgc m) (sval nu' u) _; rw [eu]; exact Or.inr ⟨by omega, q, by rw [Nat.add_sub_cancel_left]; exact hq, rfl⟩)
    · rw [cond_true]
      have eo : en_off d = 0 := by unfold en_off; rw [b1]; rfl
      have eu : sval I.1 v = 2147483648 + j := by omega
      have k2 := cntf_ok (c := tgc m) hR iv ov hq eu
      exact ⟨I.1, k2, sv_yref iv (okn_nk ov k2) tg1 (by rw [eu]; exact Or.inr ⟨by omega, q, by rw [Nat.add_sub_cancel_left]; exact hq, rfl⟩)⟩
theorem new_ok' {lo hi w : Nat} (hg : GK I.1 G) (h1 : lo ≤ w) (h2 : w ≤ hi) : ∃ nu', NK I.1 G nu' (y_new G lo hi).2 ∧ (isI (y_new G lo hi).1 = true ∧ (okn (g_n (y_new G lo hi).2) (y_new G lo hi).1 ∧ sval nu' (y_new G lo hi).1 = w)) := by
  by_cases eq : lo = hi
  · rw [y_new_eq eq]
    exact ⟨I.1, nk_refl hg, rfl, sk_okn, by show lo = w; omega⟩
  · rw [y_new_ne eq]
    exact ⟨_, nk_fresh hg h1 h2, rfl, fun _ => Nat.lt_succ_self _, nset_at _ _ _⟩
theorem mt_rest_ok {all : Bool} {t k : Nat} {e : SV} {gv : Nat → Nat} (ie : isI e = true) : ∀ {ms : List (Nat × Nat × Nat)} {ds : List (Nat × Nat × Nat)} {I : IN} {G : SG} {gs : List (Nat × SV)}, (∀ m, m ∈ ms → m ∈ (cp_at t).2.1) → RM B I G h → okn (g_n G) e → sval I.1 e = 2147483648 + k → GsOK I.1 (g_n G) gv gs → DC all I.2.2 h k gv ms ds → ∃ nu', RM B (nu', I.2) (mt_rest all e G gs ms ds) h ∧ NH I G nu' (mt_rest all e G gs ms ds) := by
  intro ms
  induction ms with
  | nil => intro ds I G gs _ hR _ _ _ _; exact ⟨I.1, by cases ds <;> exact hR, by cases ds <;> exact nh_refl I G⟩
  | cons m ms ih =>
    intro ds I G gs hm hR oe he hg hD
    cases ds with
    | nil => exact ⟨I.1, hR, nh_refl I G⟩
    | cons d ds =>
      have hm' : ∀ m, m ∈ ms → m ∈ (cp_at t).2.1 := fun m hm2 => hm m (List.mem_cons_of_mem _ hm2)
      obtain ⟨hD1, hD2⟩ := hD
      rw [mt_rest]
      cases ha : all || Nat.beq m.2.1 1
      · rw [cond_false]
        exact ih hm' hR oe he hg hD2
      · rw [cond_true]
        have hE := hD1 ha
        obtain ⟨p1, p2, p3, p4, p5, p6, p7, p8⟩ := pl_ok (hm m List.mem_cons_self) ie oe he
        obtain ⟨tg1, tg2⟩ := cp_tg (hm m List.mem_cons_self)
        have p2' : (cp_place m e).1 < 1000 := by rw [p1]; exact p2
        dsimp only
        -- a cell for the place
        have put : ∀ {nu1 : Nat → Nat} {G1 : SG} {v : SV} {V : Value}, NK I.1 G nu1 G1 → AtM I.2.2 h m k V → SVm (nu1, I.2) (g_h G).length (g_n G1) v V → RM B (nu1, I.2) (y_put G1 (cp_place m e).1 (cp_place m e).2.1 (cp_place m e).2.2 v) h ∧ (NH I G nu1 (y_put G1 (cp_place m e).1 (cp_place m e).2.1 (cp_place m e).2.2 v) ∧ sval nu1 e = 2147483648 + k) := fun {nu1 G1 v V} k1 x1 hs => by
          have hR0 := rm_nk hR k1
          have x1' : At I.2.2 h (cp_place m e).1 (mplace m k).2.1 (mplace m k).2.2 V := by rw [p1]; exact x1
          have lenH : (g_h G1).length = (g_h G).length := by rw [k1.2.2.2.1]
          refine ⟨rm_cell hR0 (cell_mk p2' (okn_nk p3 k1) (okn_nk p4 k1) p5 (by show sval nu1 _ = _; rw [sval_ag p3 k1.2.1]; exact p7) (by show sval nu1 _ = _; rw [sval_ag p4 k1.2.1]; exact p8) x1' (by rw [lenH]; exact hs)), nh_put (nh_nk k1), by rw [sval_ag oe k1.2.1]; exact he⟩
        split
        · exact ih hm' hR oe he hg hD2
        · cases b1 : Nat.ble d.1 299
          · rw [cond_false]
            have b0 : Nat.ble d.1 99 = false := by
              cases b0 : Nat.ble d.1 99
              · rfl
              · rw [b99 b0] at b1; cases b1
            unfold EnOK at hE
            rw [b0, cond_false, b1, cond_false] at hE
            cases b3 : Nat.beq d.1 300
            · rw [b3, cond_false] at hE
              rw [cond_false]
              cases b4 : Nat.beq d.1 400
              · rw [b4, cond_false] at hE
                rw [cond_false]
                cases b6 : Nat.beq d.1 600
                · rw [cond_false]
                  exact ih hm' hR oe he hg hD2
                · rw [b6, cond_true] at hE
                  rw [cond_true]
                  obtain ⟨x, x1, x2⟩ := hE
                  obtain ⟨r1, r2, r3⟩ := put (nk_refl hR.1) x1 (sv_of_int ⟨ie, oe, x2.trans he.symm⟩)
                  obtain ⟨nu2, s1, s2⟩ := ih hm' r1 oe r3 hg hD2
                  exact ⟨nu2, s1, nh_trans r2 s2⟩
              · rw [b4, cond_true] at hE
                rw [cond_true]
                obtain ⟨q, x1, x2⟩ := hE
                obtain ⟨r1, r2, r3⟩ := put (nk_refl hR.1) x1 (sv_yref ie oe tg1 (by show RefV I.2.2 (tgc m) (sval I.1 e) _; rw [he]; exact Or.inr ⟨by omega, q, by rw [Nat.add_sub_cancel_left]; exact x2, rfl⟩))
                obtain ⟨nu2, s1, s2⟩ := ih hm' r1 oe r3 hg hD2
                exact ⟨nu2, s1, nh_trans r2 s2⟩
            · rw [b3, cond_true] at hE
              rw [cond_true]
              obtain ⟨r1, r2, r3⟩ := put (v := snull) (nk_refl hR.1) hE (Or.inr (Or.inr (Or.inl ⟨rfl, rfl⟩)))
              obtain ⟨nu2, s1, s2⟩ := ih hm' r1 oe r3 hg hD2
              exact ⟨nu2, s1, nh_trans r2 s2⟩
          · rw [cond_true]
            obtain ⟨V, w, x1, x2, x3, x4, x5⟩ := (enok_lo b1).mp hE
            split
            · rename_i v hv
              obtain ⟨a, b, c⟩ := hg _ (v_find_ok hv)
              obtain ⟨nu1, k1, k2⟩ := en_val_ok hR (hm m List.mem_cons_self) a b (c.trans x3.symm) x2
              obtain ⟨r1, r2, r3⟩ := put k1 x1 k2
              obtain ⟨nu2, s1, s2⟩ := ih (I := (nu1, I.2)) hm' r1 (by have := okn_nk oe k1; exact this) r3 (gs_nk hg k1.2.2.1 k1.2.1) hD2
              exact ⟨nu2, s1, nh_trans r2 s2⟩
            · obtain ⟨nu0, j0, j1, j2, j3⟩ := new_ok' (I := I) (w := w) hR.1 x4 x5
              have hR0 := rm_nk hR j0
              obtain ⟨nu1, k1, k2⟩ := en_val_ok (I := (nu0, I.2)) hR0 (hm m List.mem_cons_self) j1 j2 j3 x2
              have kk := nk_trans j0 k1
              have lenH : (g_h (y_new G d.2.1 d.2.2).2).length = (g_h G).length := by rw [j0.2.2.2.1]
              obtain ⟨r1, r2, r3⟩ := put kk x1 (by rw [← lenH]; exact k2)
              obtain ⟨nu2, s1, s2⟩ := ih (I := (nu1, I.2)) (gs := (d.1 % 100, (y_new G d.2.1 d.2.2).1) :: gs) hm' r1 (by have := okn_nk oe kk; exact this) r3 (by
                intro q hq
                rcases List.mem_cons.mp hq with rfl | hq
                · exact ⟨j1, by have := okn_nk j2 k1; exact this, by show sval nu1 _ = _; rw [sval_ag j2 k1.2.1, j3]; exact x3⟩
                · exact gs_nk hg kk.2.2.1 kk.2.1 q hq) hD2
              exact ⟨nu2, s1, nh_trans r2 s2⟩
theorem mt_all_ok {all : Bool} {t k : Nat} {e : SV} {gv : Nat → Nat} {d : List (Nat × Nat × Nat)} (ie : isI e = true) (hR : RM B I G h) (oe : okn (g_n G) e) (he : sval I.1 e = 2147483648 + k) (hD : DC all I.2.2 h k gv (cp_at t).2.1 d) : ∀ {dd : List (List (Nat × Nat × Nat))}, d ∈ dd → ∃ G', G' ∈ mt_all all e G (cp_at t).2.1 dd ∧ ∃ nu', RM B (nu', I.2) G' h ∧ NH I G nu' G' := by
  intro dd
  induction dd with
  | nil => intro h; cases h
  | cons d2 r ih =>
    intro hd
    rw [mt_all]
    rcases List.mem_cons.mp hd with rfl | hd
    · obtain ⟨G1, gs1, r1, r2, r3, r4⟩ := mt_known_ok (t := t) (gs := []) ie he (fun m hm => hm) hR oe (fun q hq => by cases hq) hD
      obtain ⟨nu', r5, r6⟩ := mt_rest_ok (t := t) ie (fun m hm => hm) r2 (okn_nk oe r3) he r4 hD
      rw [r1]
      exact ⟨_, List.mem_cons_self, nu', r5, nh_trans (nh_nk r3) r6⟩
    · obtain ⟨G1, g1, g2⟩ := ih hd
      split
      · exact ⟨G1, g1, g2⟩
      · exact ⟨G1, List.mem_cons_of_mem _ g1, g2⟩
theorem rd_out_ok {c : Nat} {i j : SV} : ∀ {l : List SG} {o : List (SV × SG)}, rd_out c i j l = some o → ∀ G', G' ∈ l → ∃ v, y_find G' c i j = some v ∧ (v, G') ∈ o := by
  intro l
  induction l with
  | nil => intro o _ G' hG; cases hG
  | cons G1 r ih =>
    intro o ho G' hG
    rw [rd_out] at ho
    split at ho
    · rename_i v o' hv ho'
      cases ho
      rcases List.mem_cons.mp hG with rfl | hG
      · exact ⟨v, hv, List.mem_cons_self⟩
      · obtain ⟨w, w1, w2⟩ := ih ho' G' hG
        exact ⟨w, w1, List.mem_cons_of_mem _ w2⟩
    · cases ho
theorem cp_mem_ok {c : Nat} {i j e : SV} {l : List (Nat × Nat × Nat)} (h : cp_mem l c i j = some e) : ∃ m, m ∈ l ∧ (m.1 = c ∧ ((m.2.1 = 0 ∧ ((j.1 = 0 ∧ j.2.1 = m.2.2) ∧ e = i)) ∨ (m.2.1 ≠ 0 ∧ ((i.1 = 0 ∧ i.2.1 = m.2.2) ∧ e = j)))) := by
  induction l with
  | nil => cases h
  | cons m r ih =>
    have up : (∃ m, m ∈ r ∧ (m.1 = c ∧ ((m.2.1 = 0 ∧ ((j.1 = 0 ∧ j.2.1 = m.2.2) ∧ e = i)) ∨ (m.2.1 ≠ 0 ∧ ((i.1 = 0 ∧ i.2.1 = m.2.2) ∧ e = j))))) → ∃ m', m' ∈ m :: r ∧ (m'.1 = c ∧ ((m'.2.1 = 0 ∧ ((j.1 = 0 ∧ j.2.1 = m'.2.2) ∧ e = i)) ∨ (m'.2.1 ≠ 0 ∧ ((i.1 = 0 ∧ i.2.1 = m'.2.2) ∧ e = j)))) := fun ⟨x, x1, x2⟩ => ⟨x, List.mem_cons_of_mem _ x1, x2⟩
    unfold cp_mem at h
    cases e1 : Nat.beq m.1 c
    · rw [e1, cond_false] at h; exact up (ih h)
    · rw [e1, cond_true] at h
      cases e2 : Nat.beq m.2.1 0
      · rw [e2, cond_false] at h
        cases e3 : cst i m.2.2
        · rw [e3, cond_false] at h; exact up (ih h)
        · rw [e3, cond_true] at h
          exact ⟨m, List.mem_cons_self, beqt e1, Or.inr ⟨beqf e2, ⟨beqt (and2 e3).1, beqt (and2 e3).2⟩, (Option.some.inj h).symm⟩⟩
      · rw [e2, cond_true] at h
        cases e3 : cst j m.2.2
        · rw [e3, cond_false] at h; exact up (ih h)
        · rw [e3, cond_true] at h
          exact ⟨m, List.mem_cons_self, beqt e1, Or.inl ⟨beqt e2, ⟨beqt (and2 e3).1, beqt (and2 e3).2⟩, (Option.some.inj h).symm⟩⟩
/-- where a place stands in a coupling -/
theorem cp_mem_at {c a b t : Nat} {i j e : SV} {V : Value} (hcm : cp_mem (cp_at t).2.1 c i j = some e) (oi : okn (g_n G) i) (oj : okn (g_n G) j) (hi : isI i = true) (hj : isI j = true) (hi' : sval I.1 i = 2147483648 + a) (hj' : sval I.1 j = 2147483648 + b) (hV : At I.2.2 h c a b V) :
    ∃ m k, m ∈ (cp_at t).2.1 ∧ (AtM I.2.2 h m k V ∧ (isI e = true ∧ (okn (g_n G) e ∧ (sval I.1 e = 2147483648 + k ∧ ((cp_at t).1 = c + 1 → I.2.2 c k ≠ none))))) := by
  obtain ⟨m, m1, m2, m3⟩ := cp_mem_ok hcm
  obtain ⟨q1, q2, q3, q4, -⟩ := cp_ok m1
  obtain ⟨q, kk, vs, v1, v2, v3⟩ := hV
  have cs : ∀ {s : SV}, s.1 = 0 → sval I.1 s = s.2.1 := fun {s} e => by unfold sval isN; rw [e]; rfl
  rcases m3 with ⟨n1, n2, n3⟩ | ⟨n1, n2, n3⟩
  · refine ⟨m, a, m1, ?_, by rw [n3]; exact hi, by rw [n3]; exact oi, by rw [n3]; exact hi', fun _ => by rw [v1]; intro e; cases e⟩
    have e1 : mplace m a = (c, a, b) := by
      unfold mplace
      rw [n1, m2]
      have : sval I.1 j = m.2.2 := by rw [cs n2.1, n2.2]
      show (c, a, m.2.2 - 2147483648) = (c, a, b)
      rw [show m.2.2 - 2147483648 = b by omega]
    unfold AtM
    rw [e1]
    exact ⟨q, kk, vs, v1, v2, v3⟩
  · refine ⟨m, b, m1, ?_, by rw [n3]; exact hj, by rw [n3]; exact oj, by rw [n3]; exact hj', fun e => absurd (q4 (by rw [m2]; exact e.symm)) n1⟩
    have e1 : mplace m b = (c, a, b) := by
      unfold mplace
      have hz : Nat.beq m.2.1 0 = false := by
        cases hz : Nat.beq m.2.1 0
        · rfl
        · exact absurd (beqt hz) n1
      rw [hz, m2]
      have : sval I.1 i = m.2.2 := by rw [cs n2.1, n2.2]
      show (c, m.2.2 - 2147483648, b) = (c, a, b)
      rw [show m.2.2 - 2147483648 = a by omega]
    unfold AtM
    rw [e1]
    exact ⟨q, kk, vs, v1, v2, v3⟩
theorem rd_cp_ok {c a b : Nat} {i j : SV} {V : Value} {ty : TY} (hR : RM B I G h) (hc : c < 1000) (oi : okn (g_n G) i) (oj : okn (g_n G) j) (hi : isI i = true) (hj : isI j = true) (hi' : sval I.1 i = 2147483648 + a) (hj' : sval I.1 j = 2147483648 + b) (hV : At I.2.2 h c a b V) (ht : ct_at c b = some ty) : ∀ {ts : List Nat} {l : List (SV × SG)}, (∀ t, t ∈ ts → t < g_p G) → rd_cp G c i j ty ts = some l → RdOK B I G h l V := by
  intro ts
  induction ts with
  | nil => intro l _ hs; exact y_plain_ok hR hc oi oj hi hj hi' hj' hV ht hs
  | cons t r ih =>
    intro l hts hs
    have ih' := fun {l} => ih (l := l) fun t ht => hts t (List.mem_cons_of_mem _ ht)
    rw [rd_cp] at hs
    split at hs
    · exact ih' hs
    · rename_i e he
      obtain ⟨m, k, m1, m2, ie, oe, ev, hl⟩ := cp_mem_at (G := G) he oi oj hi hj hi' hj' hV
      cases e1 : x_free G t e (g_x G)
      · rw [e1, cond_false] at hs; exact ih' hs
      · rw [e1, cond_true] at hs
        have hfree := x_free_ok hR oe ev hR.2.2.2.2.1 e1
        have hT := hR.2.2.2.1.2.2.2.2.2 t k (hts t List.mem_cons_self) hfree ⟨m, V, m1, m2⟩
        have hin := cp_in_ok (lim := (cp_at t).1) (c := c) hR oe ev hl
        have fin : ∀ {all : Bool} {dd : List (List (Nat × Nat × Nat))} {d gv}, d ∈ dd → DC all I.2.2 h k gv (cp_at t).2.1 d → rd_out c i j (mt_all all e G (cp_at t).2.1 dd) = some l → RdOK B I G h l V := by
          intro all dd d gv hd hD ho
          obtain ⟨G1, g1, nu', g2, g3⟩ := mt_all_ok ie hR oe ev hD hd
          obtain ⟨v, v1, v2⟩ := rd_out_ok ho G1 g1
          refine ⟨_, v2, nu', ?_, g2, g3⟩
          exact find_ok g2 hj (by show sval nu' i = _; rw [sval_ag oi g3.1]; exact hi') (by show sval nu' j = _; rw [sval_ag oj g3.1]; exact hj') hV v1
        dsimp only at hs
        cases e2 : Nat.beq (cp_in G (cp_at t).1 c e) 1
        · rw [e2, cond_false] at hs
          cases e3 : Nat.beq (cp_in G (cp_at t).1 c e) 0
          · rw [e3, cond_false] at hs; exact ih' hs
          · rw [e3, cond_true] at hs
            obtain ⟨d, gv, d1, d2⟩ := hT.2 (hin.2 (beqt e3))
            exact fin d1 d2 hs
        · rw [e2, cond_true] at hs
          obtain ⟨d, gv, d1, d2⟩ := hT.1 (hin.1 (beqt e2))
          exact fin d1 d2 hs
/-- a read -/
theorem y_read_ok {c a b : Nat} {i j : SV} {V : Value} {l : List (SV × SG)} (hR : RM B I G h) (hc : c < 1000) (oi : okn (g_n G) i) (oj : okn (g_n G) j) (hi : isI i = true) (hj : isI j = true) (hi' : sval I.1 i = 2147483648 + a) (hj' : sval I.1 j = 2147483648 + b) (hV : At I.2.2 h c a b V) (hs : y_read G c i j = some l) : RdOK B I G h l V := by
  unfold y_read at hs
  split at hs
  · rename_i v hv
    rw [← Option.some.inj hs]
    exact ⟨_, List.mem_cons_self, I.1, find_ok hR hj hi' hj' hV hv, hR, nh_refl I G⟩
  · split at hs
    · cases hs
    · rename_i ty hty
      have ht := yty_at hty hj'
      cases e0 : Nat.beq ty.1 0 || (Nat.beq ty.1 2 || (Nat.beq ty.1 3 || Nat.beq ty.1 5))
      · rw [e0, cond_false] at hs
        exact y_plain_ok hR hc oi oj hi hj hi' hj' hV ht hs
      · rw [e0, cond_true] at hs
        exact rd_cp_ok hR hc oi oj hi hj hi' hj' hV ht (fun t ht => List.mem_range.mp ht) hs
end
