/-! ===== couplings; reads ===== -/
noncomputable def mOK (lim : Nat) (m : Nat × Nat × Nat) : Bool := Nat.ble 2147483648 m.2.2 && (Nat.ble m.1 999 && (Nat.ble m.2.1 1 && ((Nat.beq m.2.1 0 || !(Nat.beq (m.1 + 1) lim)) && (bif Nat.beq m.2.1 0 then Nat.beq (cdm m.1) 0 else !(Nat.beq (cdm m.1) 0)))))
theorem ck_cp : cpt.all (fun c => c.2.1.all (mOK c.1)) = true := by decide +kernel
theorem cp_ok {t : Nat} {m : Nat × Nat × Nat} (h : m ∈ (cp_at t).2.1) : 2147483648 ≤ m.2.2 ∧ (m.1 < 1000 ∧ (m.2.1 ≤ 1 ∧ ((m.1 + 1 = (cp_at t).1 → m.2.1 = 0) ∧ (m.2.1 = 0 ↔ cdm m.1 = 0)))) := by
  unfold cp_at at h ⊢
  by_cases ht : t < cpt.length
  · rw [List.getD_eq_getElem?_getD, List.getElem?_eq_getElem ht, Option.getD_some] at h ⊢
    have h1 := List.all_eq_true.mp (List.all_eq_true.mp ck_cp _ (List.getElem_mem ht)) m h
    obtain ⟨h1, h2⟩ := and2 h1
    obtain ⟨h2, h3⟩ := and2 h2
    obtain ⟨h3, h4⟩ := and2 h3
    obtain ⟨h4, h5⟩ := and2 h4
    have a1 := blet h1
    have a2 := blet h2
    have a3 := blet h3
    refine ⟨a1, by omega, a3, fun e => ?_, ?_⟩
    · rcases or2 h4 with k | k
      · exact beqt k
      · rw [e, Nat.beq_refl] at k; cases k
    · cases hb : Nat.beq m.2.1 0
      · rw [hb, cond_false] at h5
        refine ⟨fun e => absurd e (beqf hb), fun e => ?_⟩
        rw [e] at h5; cases h5
      · rw [hb, cond_true] at h5
        exact ⟨fun _ => beqt h5, fun _ => beqt hb⟩
  · rw [List.getD_eq_getElem?_getD, List.getElem?_eq_none (by omega)] at h
    cases h
section
variable {B : BS} {I : IN} {G G' : SG} {h : AH} {nu' : Nat → Nat}
theorem sv_int' {n m : Nat} {s : SV} {x : Int32} (hs : SVm I n m s (.int x)) : IV I.1 m s x := by
  rcases hs with ⟨a, b, y, c, d⟩ | ⟨-, -, y, c, -⟩ | ⟨-, c⟩ | ⟨-, -, c⟩ | ⟨-, -, -, c⟩
  · cases c; exact ⟨a, b, d⟩
  · cases c
  · cases c
  · cases c
  · rcases c with ⟨-, c⟩ | ⟨-, q, -, c⟩ <;> cases c
theorem sv_long' {n m : Nat} {s : SV} {x : Int64} (hs : SVm I n m s (.long x)) : LV' I.1 m s x := by
  rcases hs with ⟨-, -, y, c, -⟩ | ⟨a, b, y, c, d⟩ | ⟨-, c⟩ | ⟨-, -, c⟩ | ⟨-, -, -, c⟩
  · cases c
  · cases c; exact ⟨a, b, d⟩
  · cases c
  · cases c
  · rcases c with ⟨-, c⟩ | ⟨-, q, -, c⟩ <;> cases c
theorem sdiff_ok {a b : SV} (hR : RM B I G h) (oa : okn (g_n G) a) (ob : okn (g_n G) b) (hs : y_sdiff G a b = true) : sval I.1 a ≠ sval I.1 b := by
  have ba := itv_ok hR.1.1 a
  have bb := itv_ok hR.1.1 b
  unfold y_sdiff at hs
  dsimp only at hs
  cases e1 : Nat.ble ((itv G a).2 + 1) (itv G b).1 || Nat.ble ((itv G b).2 + 1) (itv G a).1
  · rw [e1, cond_false] at hs
    cases e2 : y_le G a b 1 1
    · rw [e2, cond_false] at hs
      have := y_le_ok hR.1 ob oa hs
      omega
    · have := y_le_ok hR.1 oa ob e2
      omega
  · rcases or2 e1 with k | k
    · have := blet k; omega
    · have := blet k; omega
theorem bifb {p q : Bool} (h : (bif p then q else false) = true) : p = true ∧ q = true := by
  cases p
  · cases h
  · exact ⟨rfl, h⟩
theorem x_free_ok {t : Nat} {e : SV} {k : Nat} (hR : RM B I G h) (oe : okn (g_n G) e) (he : sval I.1 e = 2147483648 + k) : ∀ {X : List (Nat × SV)}, (∀ x, x ∈ X → okn (g_n G) x.2) → x_free G t e X = true → ¬ ExG I.1 X t k := by
  intro X
  induction X with
  | nil => rintro - - ⟨e', h1, -⟩; cases h1
  | cons q r ih =>
    intro hX hs
    unfold x_free at hs
    have hX' : ∀ x, x ∈ r → okn (g_n G) x.2 := fun x hx => hX x (List.mem_cons_of_mem _ hx)
    rintro ⟨e', h1, h2⟩
    cases hb : Nat.beq q.1 t
    · rw [hb, cond_false] at hs
      rcases List.mem_cons.mp h1 with h1 | h1
      · rw [← h1] at hb
        exact absurd (Nat.beq_refl t) (by rw [hb]; exact Bool.false_ne_true)
      · exact ih hX' hs ⟨e', h1, h2⟩
    · rw [hb, cond_true] at hs
      replace hs := bifb hs
      rcases List.mem_cons.mp h1 with h1 | h1
      · have := sdiff_ok hR oe (hX q List.mem_cons_self) hs.1
        rw [← h1] at this
        exact this (he.trans h2.symm)
      · exact ih hX' hs.2 ⟨e', h1, h2⟩
theorem cnt_ok {c : Nat} {n : SV} (hR : RM B I G h) (hc : cnt_of G c = some n) : c < 1000 ∧ (isI n = true ∧ (okn (g_n G) n ∧ ∀ k, I.2.2 c k ≠ none ↔ 2147483648 + k < sval I.1 n)) := by
  obtain ⟨-, -, h3, h4⟩ := hR.2.2.2.2.2.1 _ (c_find_ok hc)
  rcases h4 with ⟨e, -⟩ | ⟨-, a, b, d⟩ | ⟨e, -⟩
  · cases e
  · exact ⟨h3, a, b, d⟩
  · cases e
theorem cp_in_ok {lim c k : Nat} {e : SV} (hR : RM B I G h) (oe : okn (g_n G) e) (he : sval I.1 e = 2147483648 + k) (hl : lim = c + 1 → I.2.2 c k ≠ none) : (cp_in G lim c e = 1 → Inb I.2.2 lim k) ∧ (cp_in G lim c e = 0 → ¬ Inb I.2.2 lim k) := by
  unfold cp_in
  cases e0 : Nat.beq lim 0
  · rw [cond_false]
    have n0 := beqf e0
    cases e1 : Nat.beq lim (c + 1)
    · rw [cond_false]
      split
      · exact ⟨fun h => by omega, fun h => by omega⟩
      · rename_i n hn
        obtain ⟨-, hi, ho, hk⟩ := cnt_ok hR hn
        cases e2 : y_le G e n 1 2
        · rw [cond_false]
          cases e3 : y_le G n e 0 2
          · exact ⟨fun h => absurd h (by show ¬ (2 : Nat) = 1; omega), fun h => absurd h (by show ¬ (2 : Nat) = 0; omega)⟩
          · refine ⟨fun h => absurd h (by show ¬ (0 : Nat) = 1; omega), fun _ hb => ?_⟩
            have := y_le_ok hR.1 ho oe e3
            rcases hb with hb | hb
            · exact n0 hb
            · have := (hk k).mp hb
              omega
        · refine ⟨fun _ => Or.inr ((hk k).mpr ?_), fun h => absurd h (by show ¬ (1 : Nat) = 0; omega)⟩
          have := y_le_ok hR.1 oe ho e2
          omega
    · rw [cond_true]
      have e2 := beqt e1
      exact ⟨fun _ => Or.inr (by rw [e2, Nat.add_sub_cancel]; exact hl e2), fun h => absurd h (by show ¬ (1 : Nat) = 0; omega)⟩
  · rw [cond_true]
    exact ⟨fun _ => Or.inl (beqt e0), fun h => absurd h (by show ¬ (1 : Nat) = 0; omega)⟩
theorem pl_ok {t k : Nat} {m : Nat × Nat × Nat} {e : SV} {nu : Nat → Nat} {mm : Nat} (hm : m ∈ (cp_at t).2.1) (ie : isI e = true) (oe : okn mm e) (he : sval nu e = 2147483648 + k) :
    (cp_place m e).1 = (mplace m k).1 ∧ ((mplace m k).1 < 1000 ∧ (okn mm (cp_place m e).2.1 ∧ (okn mm (cp_place m e).2.2 ∧ (isI (cp_place m e).2.2 = true ∧ (isI (cp_place m e).2.1 = true ∧ (sval nu (cp_place m e).2.1 = 2147483648 + (mplace m k).2.1 ∧ sval nu (cp_place m e).2.2 = 2147483648 + (mplace m k).2.2)))))) := by
  obtain ⟨h1, h2, h3, -, -⟩ := cp_ok hm
  have hz : m.2.2 = 2147483648 + (m.2.2 - 2147483648) := by omega
  cases hb : Nat.beq m.2.1 0
  · have e1 : cp_place m e = (m.1, sk m.2.2, e) := by unfold cp_place; rw [hb]; rfl
    have e2 : mplace m k = (m.1, m.2.2 - 2147483648, k) := by unfold mplace; rw [hb]; rfl
    rw [e1, e2]
    exact ⟨rfl, h2, sk_okn, oe, ie, rfl, (sk_val (nu := nu)).trans hz, he⟩
  · have e1 : cp_place m e = (m.1, e, sk m.2.2) := by unfold cp_place; rw [hb]; rfl
    have e2 : mplace m k = (m.1, k, m.2.2 - 2147483648) := by unfold mplace; rw [hb]; rfl
    rw [e1, e2]
    exact ⟨rfl, h2, oe, sk_okn, rfl, ie, he, (sk_val (nu := nu)).trans hz⟩
noncomputable def GsOK (nu : Nat → Nat) (m : Nat) (gv : Nat → Nat) (gs : List (Nat × SV)) : Prop := ∀ q, q ∈ gs → isI q.2 = true ∧ (okn m q.2 ∧ sval nu q.2 = gv q.1)
theorem v_find_ok {g : Nat} {l : List (Nat × SV)} {v : SV} (h : v_find g l = some v) : (g, v) ∈ l := by
  induction l with
  | nil => cases h
  | cons q r ih =>
    unfold v_find at h
    cases hb : Nat.beq q.1 g
    · rw [hb, cond_false] at h; exact List.mem_cons_of_mem _ (ih h)
    · rw [hb, cond_true] at h
      have e : q = (g, v) := Prod.ext (beqt hb) (Option.some.inj h)
      rw [e]; exact List.mem_cons_self
theorem gs_nk {nu : Nat → Nat} {gv : Nat → Nat} {gs : List (Nat × SV)} {m m' : Nat} (h : GsOK nu m gv gs) (hm : m ≤ m') (hu : Ag m nu nu') : GsOK nu' m' gv gs := fun q hq => by
  obtain ⟨a, b, c⟩ := h q hq
  exact ⟨a, okn_up b hm, by rw [sval_ag b hu]; exact c⟩
theorem mt_known_ok {all : Bool} {t k : Nat} {e : SV} {gv : Nat → Nat} (ie : isI e = true) (he : sval I.1 e = 2147483648 + k) : ∀ {ms : List (Nat × Nat × Nat)} {ds : List (Nat × Nat × Nat)} {G : SG} {gs : List (Nat × SV)}, (∀ m, m ∈ ms → m ∈ (cp_at t).2.1) → RM B I G h → okn (g_n G) e → GsOK I.1 (g_n G) gv gs → DC all I.2.2 h k gv ms ds → ∃ G' gs', mt_known all e G gs ms ds = some (G', gs') ∧ (RM B I G' h ∧ (NK I.1 G I.1 G' ∧ GsOK I.1 (g_n G') gv gs')) := by
  intro ms
  induction ms with
  | nil => intro ds G gs _ hR _ hg _; exact ⟨G, gs, by cases ds <;> rfl, hR, nk_refl hR.1, hg⟩
  | cons m ms ih =>
    intro ds G gs hm hR oe hg hD
    cases ds with
    | nil => exact ⟨G, gs, rfl, hR, nk_refl hR.1, hg⟩
    | cons d ds =>
      have hm' : ∀ m, m ∈ ms → m ∈ (cp_at t).2.1 := fun m hm2 => hm m (List.mem_cons_of_mem _ hm2)
      obtain ⟨hD1, hD2⟩ := hD
      rw [mt_known]
      cases ha : all || Nat.beq m.2.1 1
      · rw [cond_false]
        exact ih hm' hR oe hg hD2
      · rw [cond_true]
        obtain ⟨x, x1, x2, x3, x4⟩ := hD1 ha
        obtain ⟨p1, p2, p3, p4, p5, p6, p7, p8⟩ := pl_ok (hm m List.mem_cons_self) ie oe he
        dsimp only
        split
        · exact ih hm' hR oe hg hD2
        · rename_i v hv
          have hsv := find_ok hR p5 p7 p8 (by rw [p1]; exact x1) hv
          obtain ⟨i1, i2, i3⟩ := sv_int' hsv
          have bv := itv_ok hR.1.1 v
          rw [← i3] at bv
          have hn : (Nat.ble ((itv G v).2 + 1) d.2.1 || Nat.ble (d.2.2 + 1) (itv G v).1) = false := by
            cases hq : (Nat.ble ((itv G v).2 + 1) d.2.1 || Nat.ble (d.2.2 + 1) (itv G v).1)
            · rfl
            · rcases or2 hq with q | q
              · have := blet q; omega
              · have := blet q; omega
          rw [hn, cond_false]
          have k1 := nk_know (v := v) (lo := nmax (itv G v).1 d.2.1) (hi := nmin (itv G v).2 d.2.2) hR.1 (nmax_le (by omega) (by omega)) (nmin_ge (by omega) (by omega))
          have hR1 := rm_nk' hR k1
          have hg1 : GsOK I.1 (g_n (y_know G v (nmax (itv G v).1 d.2.1) (nmin (itv G v).2 d.2.2))) gv (match v_find d.1 gs with | some _ => gs | none => (d.1, v) :: gs) := by
            have hg0 := gs_nk hg k1.2.2.1 k1.2.1
            split
            · exact hg0
            · intro q hq
              rcases List.mem_cons.mp hq with rfl | hq
              · exact ⟨i1, okn_nk i2 k1, i3.symm.trans x2⟩
              · exact hg0 q hq
          obtain ⟨G', gs', r1, r2, r3, r4⟩ := ih hm' hR1 (okn_nk oe k1) hg1 hD2
          exact ⟨G', gs', r1, r2, nk_trans k1 r3, r4⟩
theorem mt_rest_ok {all : Bool} {t k : Nat} {e : SV} {gv : Nat → Nat} (ie : isI e = true) : ∀ {ms : List (Nat × Nat × Nat)} {ds : List (Nat × Nat × Nat)} {I : IN} {G : SG} {gs : List (Nat × SV)}, (∀ m, m ∈ ms → m ∈ (cp_at t).2.1) → RM B I G h → okn (g_n G) e → sval I.1 e = 2147483648 + k → GsOK I.1 (g_n G) gv gs → DC all I.2.2 h k gv ms ds → ∃ nu', RM B (nu', I.2) (mt_rest all e G gs ms ds) h ∧ NH I G nu' (mt_rest all e G gs ms ds) := by
  intro ms
  induction ms with
  | nil => intro ds I G gs _ hR _ _ _ _; exact ⟨I.1, by cases ds <;> exact hR, by cases ds <;> exact nh_refl I G⟩
  | cons m ms ih =>
    intro ds I G gs hm hR oe he hg hD
    cases ds with
    | nil => exact ⟨I.1, hR, nh_refl I G⟩
    | cons d ds =>
      have hm' : ∀ m, m ∈ ms → m ∈ (cp_at t).2.1 := fun m hm2 => hm m (List.mem_cons_of_mem _ hm2)
      obtain ⟨hD1, hD2⟩ := hD
      rw [mt_rest]
      cases ha : all || Nat.beq m.2.1 1
      · rw [cond_false]
        exact ih hm' hR oe he hg hD2
      · rw [cond_true]
        obtain ⟨x, x1, x2, x3, x4⟩ := hD1 ha
        obtain ⟨p1, p2, p3, p4, p5, p6, p7, p8⟩ := pl_ok (hm m List.mem_cons_self) ie oe he
        have x1' : At I.2.2 h (cp_place m e).1 (mplace m k).2.1 (mplace m k).2.2 (.int x) := by rw [p1]; exact x1
        have p2' : (cp_place m e).1 < 1000 := by rw [p1]; exact p2
        dsimp only
        split
        · exact ih hm' hR oe he hg hD2
        · split
          · rename_i v hv
            obtain ⟨a, b, c⟩ := hg _ (v_find_ok hv)
            have hsv : SVm I (g_h G).length (g_n G) v (.int x) := sv_of_int ⟨a, b, x2.trans c.symm⟩
            have hR1 := rm_cell hR (cell_mk p2' p3 p4 p5 p7 p8 x1' hsv)
            exact ih hm' hR1 oe he hg hD2
          · by_cases eq : d.2.1 = d.2.2
            · rw [y_new_eq eq]
              have hsv : SVm I (g_h G).length (g_n G) (sk d.2.1) (.int x) := sv_of_int (sk_IV (by omega))
              have hR1 := rm_cell hR (cell_mk p2' p3 p4 p5 p7 p8 x1' hsv)
              refine ih hm' hR1 oe he ?_ hD2
              intro q hq
              rcases List.mem_cons.mp hq with rfl | hq
              · refine ⟨rfl, sk_okn, ?_⟩
                show d.2.1 = gv d.1
                omega
              · exact hg q hq
            · rw [y_new_ne eq]
              have k1 := nk_fresh (lo := d.2.1) (hi := d.2.2) (w := i2n x) hR.1 x3 x4
              have hR0 := rm_nk hR k1
              have hsv : SVm (nset I.1 (g_n G) (i2n x), I.2) (g_h G).length (g_n G + 1) (1, g_n G, 0) (.int x) := sv_of_int ⟨rfl, fun _ => Nat.lt_succ_self _, (nset_at _ _ _).symm⟩
              have hR1 := rm_cell hR0 (cell_mk (n := (g_h G).length) (m := g_n G + 1) p2' (okn_nk p3 k1) (okn_nk p4 k1) p5 (by show sval (nset I.1 (g_n G) (i2n x)) _ = _; rw [sval_ag p3 k1.2.1]; exact p7) (by show sval (nset I.1 (g_n G) (i2n x)) _ = _; rw [sval_ag p4 k1.2.1]; exact p8) x1' hsv)
              have he1 : sval (nset I.1 (g_n G) (i2n x)) e = 2147483648 + k := by rw [sval_ag oe k1.2.1]; exact he
              obtain ⟨nu2, r1, r2⟩ := ih (I := (nset I.1 (g_n G) (i2n x), I.2)) hm' hR1 (show okn (g_n (y_fresh G d.2.1 d.2.2)) e from okn_nk oe k1) he1 (gs := (d.1, (1, g_n G, 0)) :: gs) (by
                intro q hq
                rcases List.mem_cons.mp hq with rfl | hq
                · refine ⟨rfl, fun _ => Nat.lt_succ_self _, ?_⟩
                  show nset I.1 (g_n G) (i2n x) (g_n G) = gv d.1
                  rw [nset_at]; exact x2
                · exact gs_nk hg k1.2.2.1 k1.2.1 q hq) hD2
              exact ⟨nu2, r1, nh_trans (nh_put (nh_nk k1)) r2⟩
theorem mt_all_ok {all : Bool} {t k : Nat} {e : SV} {gv : Nat → Nat} {d : List (Nat × Nat × Nat)} (ie : isI e = true) (hR : RM B I G h) (oe : okn (g_n G) e) (he : sval I.1 e = 2147483648 + k) (hD : DC all I.2.2 h k gv (cp_at t).2.1 d) : ∀ {dd : List (List (Nat × Nat × Nat))}, d ∈ dd → ∃ G', G' ∈ mt_all all e G (cp_at t).2.1 dd ∧ ∃ nu', RM B (nu', I.2) G' h ∧ NH I G nu' G' := by
  intro dd
  induction dd with
  | nil => intro h; cases h
  | cons d2 r ih =>
    intro hd
    rw [mt_all]
    rcases List.mem_cons.mp hd with rfl | hd
    · obtain ⟨G1, gs1, r1, r2, r3, r4⟩ := mt_known_ok (t := t) (gs := []) ie he (fun m hm => hm) hR oe (fun q hq => by cases hq) hD
      obtain ⟨nu', r5, r6⟩ := mt_rest_ok (t := t) ie (fun m hm => hm) r2 (okn_nk oe r3) he r4 hD
      rw [r1]
      exact ⟨_, List.mem_cons_self, nu', r5, nh_trans (nh_nk r3) r6⟩
    · obtain ⟨G1, g1, g2⟩ := ih hd
      split
      · exact ⟨G1, g1, g2⟩
      · exact ⟨G1, List.mem_cons_of_mem _ g1, g2⟩
theorem rd_out_ok {c : Nat} {i j : SV} : ∀ {l : List SG} {o : List (SV × SG)}, rd_out c i j l = some o → ∀ G', G' ∈ l → ∃ v, y_find G' c i j = some v ∧ (v, G') ∈ o := by
  intro l
  induction l with
  | nil => intro o _ G' hG; cases hG
  | cons G1 r ih =>
    intro o ho G' hG
    rw [rd_out] at ho
    split at ho
    · rename_i v o' hv ho'
      cases ho
      rcases List.mem_cons.mp hG with rfl | hG
      · exact ⟨v, hv, List.mem_cons_self⟩
      · obtain ⟨w, w1, w2⟩ := ih ho' G' hG
        exact ⟨w, w1, List.mem_cons_of_mem _ w2⟩
    · cases ho
theorem cp_mem_ok {c : Nat} {i j e : SV} {l : List (Nat × Nat × Nat)} (h : cp_mem l c i j = some e) : ∃ m, m ∈ l ∧ (m.1 = c ∧ ((m.2.1 = 0 ∧ ((j.1 = 0 ∧ j.2.1 = m.2.2) ∧ e = i)) ∨ (m.2.1 ≠ 0 ∧ ((i.1 = 0 ∧ i.2.1 = m.2.2) ∧ e = j)))) := by
  induction l with
  | nil => cases h
  | cons m r ih =>
    have up : (∃ m, m ∈ r ∧ (m.1 = c ∧ ((m.2.1 = 0 ∧ ((j.1 = 0 ∧ j.2.1 = m.2.2) ∧ e = i)) ∨ (m.2.1 ≠ 0 ∧ ((i.1 = 0 ∧ i.2.1 = m.2.2) ∧ e = j))))) → ∃ m', m' ∈ m :: r ∧ (m'.1 = c ∧ ((m'.2.1 = 0 ∧ ((j.1 = 0 ∧ j.2.1 = m'.2.2) ∧ e = i)) ∨ (m'.2.1 ≠ 0 ∧ ((i.1 = 0 ∧ i.2.1 = m'.2.2) ∧ e = j)))) := fun ⟨x, x1, x2⟩ => ⟨x, List.mem_cons_of_mem _ x1, x2⟩
    unfold cp_mem at h
    cases e1 : Nat.beq m.1 c
    · rw [e1, cond_false] at h; exact up (ih h)
    · rw [e1, cond_true] at h
      cases e2 : Nat.beq m.2.1 0
      · rw [e2, cond_false] at h
        cases e3 : cst i m.2.2
        · rw [e3, cond_false] at h; exact up (ih h)
        · rw [e3, cond_true] at h
          exact ⟨m, List.mem_cons_self, beqt e1, Or.inr ⟨beqf e2, ⟨beqt (and2 e3).1, beqt (and2 e3).2⟩, (Option.some.inj h).symm⟩⟩
      · rw [e2, cond_true] at h
        cases e3 : cst j m.2.2
        · rw [e3, cond_false] at h; exact up (ih h)
        · rw [e3, cond_true] at h
          exact ⟨m, List.mem_cons_self, beqt e1, Or.inl ⟨beqt e2, ⟨beqt (and2 e3).1, beqt (and2 e3).2⟩, (Option.some.inj h).symm⟩⟩
/-- where a place stands in a coupling -/
theorem cp_mem_at {c a b t : Nat} {i j e : SV} {V : Value} (hcm : cp_mem (cp_at t).2.1 c i j = some e) (oi : okn (g_n G) i) (oj : okn (g_n G) j) (hi : isI i = true) (hj : isI j = true) (hi' : sval I.1 i = 2147483648 + a) (hj' : sval I.1 j = 2147483648 + b) (hV : At I.2.2 h c a b V) :
    ∃ m k, m ∈ (cp_at t).2.1 ∧ (AtM I.2.2 h m k V ∧ (isI e = true ∧ (okn (g_n G) e ∧ (sval I.1 e = 2147483648 + k ∧ ((cp_at t).1 = c + 1 → I.2.2 c k ≠ none))))) := by
  obtain ⟨m, m1, m2, m3⟩ := cp_mem_ok hcm
  obtain ⟨q1, q2, q3, q4, -⟩ := cp_ok m1
  obtain ⟨q, kk, vs, v1, v2, v3⟩ := hV
  have cs : ∀ {s : SV}, s.1 = 0 → sval I.1 s = s.2.1 := fun {s} e => by unfold sval isN; rw [e]; rfl
  rcases m3 with ⟨n1, n2, n3⟩ | ⟨n1, n2, n3⟩
  · refine ⟨m, a, m1, ?_, by rw [n3]; exact hi, by rw [n3]; exact oi, by rw [n3]; exact hi', fun _ => by rw [v1]; intro e; cases e⟩
    have e1 : mplace m a = (c, a, b) := by
      unfold mplace
      rw [n1, m2]
      have : sval I.1 j = m.2.2 := by rw [cs n2.1, n2.2]
      show (c, a, m.2.2 - 2147483648) = (c, a, b)
      rw [show m.2.2 - 2147483648 = b by omega]
    unfold AtM
    rw [e1]
    exact ⟨q, kk, vs, v1, v2, v3⟩
  · refine ⟨m, b, m1, ?_, by rw [n3]; exact hj, by rw [n3]; exact oj, by rw [n3]; exact hj', fun e => absurd (q4 (by rw [m2]; exact e.symm)) n1⟩
    have e1 : mplace m b = (c, a, b) := by
      unfold mplace
      have hz : Nat.beq m.2.1 0 = false := by
        cases hz : Nat.beq m.2.1 0
        · rfl
        · exact absurd (beqt hz) n1
      rw [hz, m2]
      have : sval I.1 i = m.2.2 := by rw [cs n2.1, n2.2]
      show (c, m.2.2 - 2147483648, b) = (c, a, b)
      rw [show m.2.2 - 2147483648 = a by omega]
    unfold AtM
    rw [e1]
    exact ⟨q, kk, vs, v1, v2, v3⟩
theorem rd_cp_ok {c a b : Nat} {i j : SV} {V : Value} {ty : TY} (hR : RM B I G h) (hc : c < 1000) (oi : okn (g_n G) i) (oj : okn (g_n G) j) (hi : isI i = true) (hj : isI j = true) (hi' : sval I.1 i = 2147483648 + a) (hj' : sval I.1 j = 2147483648 + b) (hV : At I.2.2 h c a b V) (ht : ct_at c b = some ty) : ∀ {ts : List Nat} {l : List (SV × SG)}, (∀ t, t ∈ ts → t < g_p G) → rd_cp G c i j ty ts = some l → RdOK B I G h l V := by
  intro ts
  induction ts with
  | nil => intro l _ hs; exact y_plain_ok hR hc oi oj hi hj hi' hj' hV ht hs
  | cons t r ih =>
    intro l hts hs
    have ih' := fun {l} => ih (l := l) fun t ht => hts t (List.mem_cons_of_mem _ ht)
    rw [rd_cp] at hs
    split at hs
    · exact ih' hs
    · rename_i e he
      obtain ⟨m, k, m1, m2, ie, oe, ev, hl⟩ := cp_mem_at (G := G) he oi oj hi hj hi' hj' hV
      cases e1 : x_free G t e (g_x G)
      · rw [e1, cond_false] at hs; exact ih' hs
      · rw [e1, cond_true] at hs
        have hfree := x_free_ok hR oe ev hR.2.2.2.2.1 e1
        have hT := hR.2.2.2.1.2.2.2.2.2 t k (hts t List.mem_cons_self) hfree ⟨m, V, m1, m2⟩
        have hin := cp_in_ok (lim := (cp_at t).1) (c := c) hR oe ev hl
        have fin : ∀ {all : Bool} {dd : List (List (Nat × Nat × Nat))} {d gv}, d ∈ dd → DC all I.2.2 h k gv (cp_at t).2.1 d → rd_out c i j (mt_all all e G (cp_at t).2.1 dd) = some l → RdOK B I G h l V := by
          intro all dd d gv hd hD ho
          obtain ⟨G1, g1, nu', g2, g3⟩ := mt_all_ok ie hR oe ev hD hd
          obtain ⟨v, v1, v2⟩ := rd_out_ok ho G1 g1
          refine ⟨_, v2, nu', ?_, g2, g3⟩
          exact find_ok g2 hj (by show sval nu' i = _; rw [sval_ag oi g3.1]; exact hi') (by show sval nu' j = _; rw [sval_ag oj g3.1]; exact hj') hV v1
        dsimp only at hs
        cases e2 : Nat.beq (cp_in G (cp_at t).1 c e) 1
        · rw [e2, cond_false] at hs
          cases e3 : Nat.beq (cp_in G (cp_at t).1 c e) 0
          · rw [e3, cond_false] at hs; exact ih' hs
          · rw [e3, cond_true] at hs
            obtain ⟨d, gv, d1, d2⟩ := hT.2 (hin.2 (beqt e3))
            exact fin d1 d2 hs
        · rw [e2, cond_true] at hs
          obtain ⟨d, gv, d1, d2⟩ := hT.1 (hin.1 (beqt e2))
          exact fin d1 d2 hs
/-- a read -/
theorem y_read_ok {c a b : Nat} {i j : SV} {V : Value} {l : List (SV × SG)} (hR : RM B I G h) (hc : c < 1000) (oi : okn (g_n G) i) (oj : okn (g_n G) j) (hi : isI i = true) (hj : isI j = true) (hi' : sval I.1 i = 2147483648 + a) (hj' : sval I.1 j = 2147483648 + b) (hV : At I.2.2 h c a b V) (hs : y_read G c i j = some l) : RdOK B I G h l V := by
  unfold y_read at hs
  split at hs
  · rename_i v hv
    rw [← Option.some.inj hs]
    exact ⟨_, List.mem_cons_self, I.1, find_ok hR hj hi' hj' hV hv, hR, nh_refl I G⟩
  · split at hs
    · cases hs
    · rename_i ty hty
      have ht := yty_at hty hj'
      cases e0 : Nat.beq ty.1 0
      · rw [e0, cond_false] at hs
        exact y_plain_ok hR hc oi oj hi hj hi' hj' hV ht hs
      · rw [e0, cond_true] at hs
        exact rd_cp_ok hR hc oi oj hi hj hi' hj' hV ht (fun t ht => List.mem_range.mp ht) hs
end
