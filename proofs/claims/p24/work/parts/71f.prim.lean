/-! ===== calls of a list's own methods ===== -/
theorem lst_of_mem {c : Nat} {r : Nat × Nat × Nat} : ∀ {l : List (Nat × Nat × Nat × Nat)}, lst_of c l = some r → (c, r.1, r.2.1, r.2.2) ∈ l := by
  intro l
  induction l with
  | nil => intro h; cases h
  | cons q t ih =>
    intro h
    rw [lst_of] at h
    cases hb : Nat.beq q.1 c
    · rw [hb, cond_false] at h
      exact List.mem_cons_of_mem _ (ih h)
    · rw [hb, cond_true] at h
      have e := Option.some.inj h
      have : q = (c, r.1, r.2.1, r.2.2) := by rw [← e]; exact Prod.ext (beqt hb) rfl
      rw [this]
      exact List.mem_cons_self
theorem ck_el : lstt.all (fun x => Nat.ble (cdk x.2.1) 11) = true := by decide +kernel
theorem ck_s5 : cdk (stc 5) = 34 ∧ cdm (stc 5) = 1 := ⟨by decide +kernel, by decide +kernel⟩
theorem pr_get_mem {el ident : Nat} {i : SV} : ∀ {l : List (SV × SG)} {o : List (Option SV × SG)}, pr_get el ident i l = some o → ∀ q, q ∈ l → (isI i = true ∧ (y_le q.2 (sk 2147483648) i 0 2 = true ∧ y_le q.2 i q.1 1 2 = true)) ∧ (bif Nat.beq ident 1 then (some (y_ref el i), q.2) else (some (6, el, g_n q.2), y_fresh q.2 2147483648 2148532224)) ∈ o := by
  intro l
  induction l with
  | nil => intro o _ q h; cases h
  | cons p r ih =>
    intro o h q hq
    rw [pr_get] at h
    replace h := bif_some h
    obtain ⟨g1, h⟩ := h
    obtain ⟨f1, g2⟩ := and2 g1
    obtain ⟨f2, f3⟩ := and2 g2
    split at h
    · rename_i o' ho
      rw [← Option.some.inj h]
      rcases List.mem_cons.mp hq with rfl | hq
      · exact ⟨⟨f1, f2, f3⟩, List.mem_cons_self⟩
      · exact ⟨(ih ho q hq).1, List.mem_cons_of_mem _ (ih ho q hq).2⟩
    · cases h
noncomputable def pr_at (el ident : Nat) (v : SV) (q : SV × SG) : Option SG := bif Nat.beq (y_fwd q.2 v).1 5 then (match cnt_of q.2 el with
    | none => none
    | some n => bif Nat.beq ident 0 || veq n q.1 then y_pub q.2 (y_fwd q.2 v).2.1 el n 1000 0 else none)
  else bif isT (y_fwd q.2 v) && Nat.beq (y_fwd q.2 v).2.1 el then (bif Nat.beq ident 0 then (bif Nat.ble 2147483648 (itv q.2 (y_idx (y_fwd q.2 v))).1 then some q.2 else none) else bif veq (y_idx (y_fwd q.2 v)) q.1 then some q.2 else none) else none
theorem pr_add_mem {c el ident : Nat} {v : SV} : ∀ {l : List (SV × SG)} {o : List (Option SV × SG)}, pr_add c el ident v l = some o → ∀ q, q ∈ l → ∃ G2 m G3, pr_at el ident v q = some G2 ∧ (y_bin 0 q.1 (sk 2147483649) G2 = some m ∧ (y_write (upC m.2 (c_del c (g_c m.2))) c (sk 2147483648) (sk 2147483650) m.1 = some G3 ∧ (some (sk 2147483649), upX (upU G3 (g_u G3 + 128) (g_q G3 + 1)) (g_x G3) ((c * 128 + 1) :: c * 128 :: g_k G3)) ∈ o)) := by
  intro l
  induction l with
  | nil => intro o _ q h; cases h
  | cons p r ih =>
    intro o h q hq
    have h0 : (match pr_at el ident v p with
      | none => none
      | some G2 => (match y_bin 0 p.1 (sk 2147483649) G2 with
        | none => none
        | some m => (match y_write (upC m.2 (c_del c (g_c m.2))) c (sk 2147483648) (sk 2147483650) m.1 with
          | none => none
          | some G3 => (match pr_add c el ident v r with
            | none => none
            | some o => some ((some (sk 2147483649), upX (upU G3 (g_u G3 + 128) (g_q G3 + 1)) (g_x G3) ((c * 128 + 1) :: c * 128 :: g_k G3)) :: o))))) = some o := h
    split at h0
    · cases h0
    · rename_i G2 hG2
      split at h0
      · cases h0
      · rename_i m hm
        split at h0
        · cases h0
        · rename_i G3 hG3
          split at h0
          · cases h0
          · rename_i o' ho
            rw [← Option.some.inj h0]
            rcases List.mem_cons.mp hq with rfl | hq
            · exact ⟨G2, m, G3, hG2, hm, hG3, List.mem_cons_self⟩
            · obtain ⟨a, b, c, d, e, f, g⟩ := ih ho q hq
              exact ⟨a, b, c, d, e, f, List.mem_cons_of_mem _ g⟩
theorem pr_emp_mem {b : Bool × SG} : ∀ {l : List (SV × SG)}, ∀ q, q ∈ l → b ∈ y_eq q.2 q.1 (sk 2147483648) true false → (some (sk (bif b.1 then 2147483649 else 2147483648)), b.2) ∈ pr_emp l := by
  intro l
  induction l with
  | nil => intro q h; cases h
  | cons p r ih =>
    intro q hq hb
    rw [pr_emp]
    rcases List.mem_cons.mp hq with rfl | hq
    · exact List.mem_append_left _ (List.mem_map.mpr ⟨b, hb, rfl⟩)
    · exact List.mem_append_right _ (ih q hq hb)
theorem y_pub_idx {G G' : SG} {k c ow op : Nat} {e : SV} (hs : y_pub G k c e ow op = some G') : 2147483648 ≤ (itv G e).1 := by
  unfold y_pub at hs
  split at hs
  · cases hs
  · rename_i G3 hG3
    clear hs
    unfold y_pub0 at hG3
    split at hG3
    · replace hG3 := bif_some hG3
      exact blet (and2 (and2 hG3.1).2).2
    · cases hG3
section
variable {B : BS} {I I' : IN} {n m n' m' : Nat} {G G' : SG} {h h' h0 h1 : AH} {lv lv' lv0 : SLV} {L L' L1 : LV} {c : Int} {a k kd i f : Nat} {s : SV} {v : Value} {σ : Nat → Nat} {Q : Option Value → AH → Prop}
/-- a list as the heap has it -/
theorem lst_view {l el ident mx q : Nat} (hl : (l, el, ident, mx) ∈ lstt) (hσ : ∀ i, i < 6 → I.2.2 (stc i) 0 = some (σ i)) (hR : RM B I G h) (hq : I.2.2 l 0 = some q) : ∃ mc bq sz N us, h.1 q = some (12, [.int mc, .ref bq, .int sz]) ∧ (q < h.2.1 ∧ (bq < h.2.1 ∧ (bq ≠ q ∧ (i2n sz = 2147483648 + N ∧
    ((bq = σ 5 ∧ (us = [] ∧ (N = 0 ∧ ∃ k, 20 ≤ k ∧ h.1 bq = some (k, [])))) ∨ (bq ≠ σ 5 ∧ (I.2.2 (bkc l) 0 = some bq ∧ (h.1 bq = some (24, us) ∧ (N ≤ us.length ∧ (us.length ≤ 1000 ∧ ∀ k, k < N → ∃ u, us[k]? = some u ∧ ElOK I.2.2 el ident k u)))))))))) := by
  obtain ⟨-, -, -, ⟨t1, t2, t3, t4, t5, t6⟩, -⟩ := hR
  obtain ⟨hk12, hl1000, hel⟩ := ck_l hl
  obtain ⟨mc, ed, sz, N, g1, g2, g3⟩ := t5 l el ident mx hl q hq
  have h5 := hσ 5 (by omega)
  rcases g3 with ⟨q5, e1, rfl, e3⟩ | ⟨bq, us, f1, rfl, f3, f4, f5, f6⟩
  · rw [h5] at e1
    cases e1
    obtain ⟨-, k, vs, u2, u3, u4, -⟩ := t1 (stc 5) 0 _ (by unfold stc; omega) h5
    have hk : k = 34 := by
      rcases u3 with u3 | ⟨u3, -⟩
      · rw [ck_s5.1] at u3; exact u3
      · rw [ck_s5.1] at u3; omega
    have hlen := u4.2.1 (by rw [ck_s5.2]; omega) (by rw [ck_s5.2]; omega)
    rw [ck_s5.2] at hlen
    have hvs : vs = [] := List.length_eq_zero_iff.mp (by omega)
    refine ⟨mc, σ 5, sz, N, [], g1, t3 _ _ _ hq, t3 _ _ _ h5, fun e => ?_, g2, Or.inl ⟨rfl, rfl, e3, k, by omega, by rw [u2, hvs]⟩⟩
    rw [e, g1] at u2
    cases u2
    omega
  · have hb1 : 1000 ≤ bkc l := by unfold bkc; omega
    refine ⟨mc, bq, sz, N, us, g1, t3 _ _ _ hq, t3 _ _ _ f1, fun e => ?_, g2, Or.inr ⟨fun e => ?_, f1, f3, f4, f5, f6⟩⟩
    · rw [e, g1] at f3
      cases f3
    · rw [e] at f1
      rcases t2 _ _ _ _ _ f1 h5 with ⟨e3, -⟩ | ⟨⟨-, e3⟩, -⟩
      · unfold stc at e3; omega
      · omega
theorem el_obj {l el ident mx j k : Nat} {u : Value} (hl : (l, el, ident, mx) ∈ lstt) (hR : RM B I G h) (hu : ElOK I.2.2 el ident k u) : ∃ a kk fs, u = .ref a ∧ (a < h.2.1 ∧ (h.1 a = some (kk, fs) ∧ kk < 13)) := by
  obtain ⟨-, -, -, ⟨t1, t2, t3, -⟩, -⟩ := hR
  have hel := (ck_l hl).2.2
  have hk := blet (List.all_eq_true.mp ck_el _ hl)
  dsimp only at hk
  have key : ∀ j, 2147483648 ≤ j → RefV I.2.2 el j u → ∃ a kk fs, u = .ref a ∧ (a < h.2.1 ∧ (h.1 a = some (kk, fs) ∧ kk < 13)) := by
    intro j hj hr
    rcases hr with ⟨e, -⟩ | ⟨-, a, e1, e2⟩
    · omega
    · obtain ⟨-, kk, vs, u2, u3, -⟩ := t1 _ _ _ hel e1
      refine ⟨a, kk, vs, e2, t3 _ _ _ e1, u2, ?_⟩
      rcases u3 with u3 | ⟨u3, -⟩ <;> omega
  rcases hu with ⟨-, hr⟩ | ⟨-, j, hj, hr⟩
  · exact key _ (by omega) hr
  · exact key j hj hr
theorem write_size {l el ident mx : Nat} {w : SV} {z : Int32} (hl : (l, el, ident, mx) ∈ lstt) (hg : GK I.1 G) (hw : IV I.1 (g_n G) w z) (hs : y_write (upC G (c_del l (g_c G))) l (sk 2147483648) (sk 2147483650) w = some G') : G' = y_set (upC G (c_del l (g_c G))) l (sk 2147483648) (sk 2147483650) w ∧ ∃ ty, ct_at l 2 = some ty ∧ (ty.2.1 ≤ i2n z ∧ (i2n z ≤ ty.2.2 ∧ ty.2.2 ≤ 2147483708)) := by
  have hm := lst_m hl
  obtain ⟨tb, ts, r0, r1, r1', r2, r3, r4, r5, r6, r7⟩ := lst_at hl hm
  unfold y_write at hs
  replace hs := (bif_some hs).2
  split at hs
  · cases hs
  · rename_i ty hty
    have ht : ct_at l 2 = some ty := yty_at (nu := I.1) hty (by rw [sk_val])
    rw [r2] at ht
    cases ht
    dsimp only at hs
    have hf : y_fwd (upC G (c_del l (g_c G))) w = w := by
      unfold y_fwd
      have h5 : Nat.beq w.1 5 = false := by
        cases h5 : Nat.beq w.1 5
        · rfl
        · have := beqt h5
          have := tag_I hw.1
          omega
      rw [h5, cond_false]
    rw [hf, r3, Nat.beq_refl, cond_true] at hs
    replace hs := bif_some hs
    obtain ⟨f1, hs⟩ := hs
    obtain ⟨f1, f2⟩ := and2 f1
    have := fit_ok (I := I) (G := upC G (c_del l (g_c G))) hg hw f2
    exact ⟨(Option.some.inj hs).symm, _, r2, this.1, this.2, r5⟩
theorem prim_get {l el ident mx q : Nat} {i : SV} {Vi : Value} {ls : List (SV × SG)} {es : List (Option SV × SG)} {mc sz : Int32} {ed : Value} (hl : (l, el, ident, mx) ∈ lstt) (hσ : ∀ i, i < 6 → B.1.1 (stc i) 0 = some (σ i)) (hR : RM B I G h) (hq : I.2.2 l 0 = some q) (hrow : h.1 q = some (12, [.int mc, ed, .int sz])) (hi : SVm I (g_h G).length (g_n G) i Vi) (hrd : RdOK B I G h ls (.int sz)) (hs : pr_get el ident i ls = some es) (hE : Ends B I G es Q) : Rt σ 3 (codeOf 3) (am_args 0 [.ref q, Vi]) [] h Q := by
  obtain ⟨p, p1, nu', p2, p3, p4⟩ := hrd
  obtain ⟨⟨f1, f2, f3⟩, hmem⟩ := pr_get_mem hs p p1
  have hg := gr_nh p4
  have hi1 := sv_gr hg hi
  obtain ⟨j, rfl, hj⟩ := sv_int hi1 f1
  have hsz := sv_int' p2
  have b1 := y_le_ok p3.1 sk_okn hj.2.1 f2
  have b2 := y_le_ok p3.1 hj.2.1 hsz.2.1 f3
  rw [sk_val] at b1
  have ej : i2n j = sval nu' i := hj.2.2
  have es9 : i2n sz = sval nu' p.1 := hsz.2.2
  dsimp only at b1 b2
  obtain ⟨j1, j2⟩ := j_of (j := j) (by omega)
  have hσ2 : ∀ i, i < 6 → I.2.2 (stc i) 0 = some (σ i) := fun i hi => hR.2.2.2.2.2.2.2.2.1 _ _ _ (by unfold stc; omega) (hσ i hi)
  obtain ⟨mc', bq, sz', N, us, v1, v2, v3, v4, v5, v6⟩ := lst_view hl hσ2 hR hq
  rw [hrow] at v1
  cases v1
  rcases v6 with ⟨-, -, w3, -⟩ | ⟨-, -, w3, w4, -, w6⟩
  · omega
  · obtain ⟨u, u1, u2⟩ := w6 (i2n j - 2147483648) (by omega)
    obtain ⟨a, kk, fs, rfl, -⟩ := el_obj (j := 0) hl hR u2
    refine L_get hrow w3 j1 ((i_lt _ _).mpr (by omega)) (by rw [j2]; exact u1) ?_
    have hel := (ck_l hl).2.2
    rcases u2 with ⟨hid, hr⟩ | ⟨hid, e, he, hr⟩
    · subst hid
      have hv : SVm (nu', I.2) (g_h p.2).length (g_n p.2) (y_ref el i) (.ref a) := by
        refine sv_yref (I := (nu', I.2)) hj.1 hj.2.1 hel ?_
        have e9 : sval nu' i = 2147483648 + (i2n j - 2147483648) := by omega
        show RefV I.2.2 el (sval nu' i) _
        rw [e9]
        exact hr
      exact hE (some (y_ref el i), p.2) hmem (nu', I.2) _ h hg p3 hv
    · subst hid
      have hr9 := ref_rng hR.2.2.2.1.1 hel hr
      have k1 := nk_fresh (lo := 2147483648) (hi := 2148532224) (w := e) (nu := nu') p3.1 he hr9.2
      have hR2 := rm_nk (I := (nu', I.2)) p3 k1
      exact hE (some (6, el, g_n p.2), y_fresh p.2 2147483648 2148532224) hmem (nset nu' (g_n p.2) e, I.2) _ h (gr_trans hg (gr_nk (I := (nu', I.2)) k1)) hR2 (sv_name hel hr (Nat.lt_succ_self _) (nset_at _ _ _))
theorem prim_clear {l el ident mx q : Nat} {G2 : SG} (hl : (l, el, ident, mx) ∈ lstt) (hσ : ∀ i, i < 6 → B.1.1 (stc i) 0 = some (σ i)) (hR : RM B I G h) (hq : I.2.2 l 0 = some q) (hs : y_write (upC G (c_del l (g_c G))) l (sk 2147483648) (sk 2147483650) (sk 2147483648) = some G2) (hE : Ends B I G [(none, upX G2 (g_x G2) ((l * 128 + 1) :: l * 128 :: g_k G2))] Q) : Rt σ mClear (codeOf mClear) (am_args 0 [.ref q]) [] h Q := by
  have hσ2 : ∀ i, i < 6 → I.2.2 (stc i) 0 = some (σ i) := fun i hi => hR.2.2.2.2.2.2.2.2.1 _ _ _ (by unfold stc; omega) (hσ i hi)
  obtain ⟨mc, bq, sz, N, us, v1, v2, v3, v4, v5, v6⟩ := lst_view hl hσ2 hR hq
  have hz : IV I.1 (g_n G) (sk 2147483648) 0 := sk_IV c_0
  obtain ⟨rfl, ty, t1, t2, t3, -⟩ := write_size hl hR.1 hz hs
  refine L_clear v1 (by omega) ⟨bq, rfl, v4, ?_⟩ fun h' c1 c2 c3 c4 => ?_
  · rcases v6 with ⟨-, -, w3, k, w4, w5⟩ | ⟨-, -, w3, w4, -⟩
    · exact ⟨k, [], w5, Or.inl (by omega)⟩
    · exact ⟨24, us, w3, Or.inr ⟨rfl, by omega⟩⟩
  · have hfin := lst_set (I := I) (ad' := I.2.2) (h := h) (h' := h') (du := 0) (dq := 0) hl hR hq hz t1 ⟨t2, t3⟩ (fun _ _ _ => rfl) (Or.inl rfl) (fun a ha hb hlt => ?_) c3 ⟨by rw [c1]; exact Nat.le_refl _, by rw [c1]; exact Nat.le_refl _, by rw [c1]; exact Nat.le_refl _⟩ ?_
    · exact hE _ List.mem_cons_self I none h' ⟨fun _ _ => rfl, Nat.le_refl _, fun _ _ => rfl, Nat.le_refl _, fun _ _ _ _ e => e⟩ hfin True.intro
    · by_cases e : bq = a
      · subst e
        rcases v6 with ⟨-, -, w3, k, w4, w5⟩ | ⟨-, w2, -⟩
        · obtain ⟨us', u1, u2⟩ := c4 bq k [] rfl w5
          rw [u2, w5, List.length_eq_zero_iff.mp u1]
        · exact absurd w2 hb
      · exact c2 a ha (fun e2 => e (Value.ref.inj e2))
    · rcases v6 with ⟨w1, -⟩ | ⟨-, w2, w3, w4, w5, -⟩
      · exact ⟨_, _, _, 0, c3, by rw [c_0], Or.inl ⟨σ 5, hσ2 5 (by omega), by rw [w1], rfl⟩⟩
      · obtain ⟨us', u1, u2⟩ := c4 bq 24 us rfl w3
        exact ⟨_, _, _, 0, c3, by rw [c_0], Or.inr ⟨bq, us', w2, rfl, u2, Nat.zero_le _, by omega, fun k hk => absurd hk (Nat.not_lt_zero _)⟩⟩
theorem prim_add {l el ident mx q : Nat} {x : SV} {V : Value} {ls : List (SV × SG)} {es : List (Option SV × SG)} {mc sz : Int32} {ed : Value} (hB : ∀ a i, ¬ B.2 a i) (hl : (l, el, ident, mx) ∈ lstt) (hσ : ∀ i, i < 6 → B.1.1 (stc i) 0 = some (σ i)) (hR : RM B I G h) (hq : I.2.2 l 0 = some q) (hrow : h.1 q = some (12, [.int mc, ed, .int sz])) (hx : SVm I (g_h G).length (g_n G) x V) (hrd : RdOK B I G h ls (.int sz)) (hs : pr_add l el ident x ls = some es) (hE : Ends B I G es Q) : Rt σ mAdd (codeOf mAdd) (am_args 0 [.ref q, V]) [] h Q := by
  obtain ⟨p, p1, nu', p2, p3, p4⟩ := hrd
  obtain ⟨G2, m, G3, a1, a2, a3, hmem⟩ := pr_add_mem hs p p1
  have hg := gr_nh p4
  have hsz := sv_int' p2
  obtain ⟨hk12, hl1000, hel⟩ := ck_l hl
  obtain ⟨f1, f2⟩ := fwd_ok p3 (sv_gr hg hx)
  have hid := (lst_row hl).2.1
  have hσ1 : ∀ i, i < 6 → I.2.2 (stc i) 0 = some (σ i) := fun i hi => hR.2.2.2.2.2.2.2.2.1 _ _ _ (by unfold stc; omega) (hσ i hi)
  obtain ⟨mc0, bq0, sz0, N, us0, v1, -, -, -, v5, -⟩ := lst_view hl hσ1 hR hq
  rw [hrow] at v1
  cases v1
  -- the element is there
  have hpub : ∃ I2, RM B I2 G2 h ∧ (Gr (nu', I.2) p.2 I2 G2 ∧ ∃ qe, V = .ref qe ∧ ElOK I2.2.2 el ident N (.ref qe)) := by
    unfold pr_at at a1
    cases e5 : Nat.beq (y_fwd p.2 x).1 5
    · rw [e5, cond_false] at a1
      replace a1 := bif_some a1
      obtain ⟨b1, a1⟩ := a1
      obtain ⟨b1, b2⟩ := and2 b1
      obtain ⟨o1, o2, o3⟩ := sv_typ f1 b1
      rw [beqt b2] at o3
      cases e0 : Nat.beq ident 0
      · rw [e0, cond_false] at a1
        replace a1 := bif_some a1
        obtain ⟨b3, a1⟩ := a1
        cases a1
        have e9 : i2n sz = sval nu' p.1 := hsz.2.2
        have e8 : sval nu' (y_idx (y_fwd p.2 x)) = 2147483648 + N := by rw [veq_ok b3]; omega
        have o3 : RefV I.2.2 el (sval nu' (y_idx (y_fwd p.2 x))) V := o3
        rw [e8] at o3
        have h1 : ident = 1 := by have := beqf e0; omega
        rcases o3 with ⟨o4, -⟩ | ⟨o4, qe, o5, rfl⟩
        · omega
        · exact ⟨(nu', I.2), p3, gr_refl _ _, qe, rfl, Or.inl ⟨h1, Or.inr ⟨o4, qe, o5, rfl⟩⟩⟩
      · rw [e0, cond_true] at a1
        replace a1 := bif_some a1
        obtain ⟨b3, a1⟩ := a1
        cases a1
        have b := (itv_ok p3.1.1 (y_idx (y_fwd p.2 x))).1
        have b3 := blet b3
        rcases o3 with ⟨o4, -⟩ | ⟨o4, qe, o5, rfl⟩
        · dsimp only at b o4; omega
        · exact ⟨(nu', I.2), p3, gr_refl _ _, qe, rfl, Or.inr ⟨beqt e0, _, o4, Or.inr ⟨o4, qe, o5, rfl⟩⟩⟩
    · rw [e5, cond_true] at a1
      split at a1
      · cases a1
      · rename_i n hn
        replace a1 := bif_some a1
        obtain ⟨b1, a1⟩ := a1
        obtain ⟨c1, c2, c3, c4⟩ := cnt_ok p3 hn
        have b2 := y_pub_idx a1
        have b := (itv_ok p3.1.1 n).1
        dsimp only at b c4
        have hE9 : sval nu' n = 2147483648 + (sval nu' n - 2147483648) := by omega
        have hfree : I.2.2 el (sval nu' n - 2147483648) = none := by
          cases e : I.2.2 el (sval nu' n - 2147483648) with
          | none => rfl
          | some a =>
            have := (c4 (sval nu' n - 2147483648)).mp (by rw [e]; exact fun e => by cases e)
            omega
        obtain ⟨I2, r1, r2, r3, r4, -⟩ := y_pub_ok (I := (nu', I.2)) p3 a1 c3 hE9 hfree (fun e => absurd e (by omega))
        obtain ⟨s1, s2⟩ := sv_raw f1 (beqt e5)
        refine ⟨I2, rm_eta r1 (fun a i e => ?_), r2, _, s2, ?_⟩
        · rcases e with e | ⟨e, -⟩
          · exact e
          · omega
        · rcases or2 b1 with b1 | b1
          · exact Or.inr ⟨beqt b1, sval nu' n, by omega, Or.inr ⟨by omega, _, r4, rfl⟩⟩
          · have e8 : sval nu' n = 2147483648 + N := by rw [veq_ok b1]; have e9 : i2n sz = sval nu' p.1 := hsz.2.2; omega
            by_cases h1 : ident = 1
            · rw [show sval nu' n - 2147483648 = N by omega] at r4
              exact Or.inl ⟨h1, Or.inr ⟨by omega, _, by rw [show 2147483648 + N - 2147483648 = N by omega]; exact r4, rfl⟩⟩
            · exact Or.inr ⟨by omega, sval nu' n, by omega, Or.inr ⟨by omega, _, r4, rfl⟩⟩
  obtain ⟨I2, r1, r2, qe, rfl, hEl⟩ := hpub
  have hs2 : IV I2.1 (g_n G2) p.1 sz := sv_int' (sv_gr r2 p2)
  obtain ⟨nu3, z, z1, z2, z3⟩ := y_bin_ok (v := m.1) (G' := m.2) r1.1 hs2 (sk_IV c_1) a2
  have hz : z = sz + 1 := (Option.some.inj z1).symm
  subst hz
  have r3 := rm_nk r1 z2
  have hgz : Gr I2 G2 (nu3, I2.2) m.2 := gr_nk z2
  obtain ⟨rfl, ty, t1, t2, t3, t4⟩ := write_size (I := (nu3, I2.2)) hl r3.1 z3 a3
  have eadd : i2n (sz + 1) = 2147483648 + N + 1 := by
    have hlt := i2n_lt (sz + 1)
    rw [kb_add, c_1, v5] at t3 hlt ⊢
    by_cases hN : N < 2147483647
    · omega
    · have := i2n_lt sz
      have e9 : N = 2147483647 := by omega
      subst e9
      rw [kb_add, c_1, v5] at t2
      have : ct_at l 2 = some ty := t1
      obtain ⟨tb, ts, -, -, -, q2, -, q4, -⟩ := lst_at hl (lst_m hl)
      rw [q2] at this
      cases this
      omega
  have hN60 : N + 1 ≤ 60 := by omega
  have hq2 : I2.2.2 l 0 = some q := r2.2.2.2.2 l 0 q hl1000 hq
  have hσ2 : ∀ i, i < 6 → I2.2.2 (stc i) 0 = some (σ i) := fun i hi => r1.2.2.2.2.2.2.2.2.1 _ _ _ (by unfold stc; omega) (hσ i hi)
  obtain ⟨mc1, bq, sz1, N1, us, w1, w2, w3, w4, w5, w6⟩ := lst_view hl hσ2 r1 hq2
  rw [hrow] at w1
  cases w1
  have hNN : N1 = N := by omega
  subst hNN
  obtain ⟨a, ke, fe, ea, e1, e2, e3⟩ := el_obj (j := 0) hl r1 hEl
  cases ea
  refine L_add (us := us) hrow w2 w3 w4 w5 (by omega) e2 e1 e3 ?_ fun h' hA => ?_
  · rcases w6 with ⟨x1, x2, x3, x4⟩ | ⟨x1, x2, x3, x4, x5, x6⟩
    · exact Or.inl ⟨x1, x2, x3, x4⟩
    · refine Or.inr ⟨x1, x3, x4, x5, fun k hk => ?_⟩
      obtain ⟨u, u1, u2⟩ := x6 k hk
      obtain ⟨a, kk, fs, rfl, y2⟩ := el_obj (j := 0) hl r1 u2
      exact ⟨a, kk, fs, u1, y2⟩
  · have fin : ∀ ad' : AD, (∀ c i, ¬ (c = bkc l ∧ i = 0) → ad' c i = I2.2.2 c i) → RM B (nu3, I2.2.1, ad') (upX (upU (y_set (upC m.2 (c_del l (g_c m.2))) l (sk 2147483648) (sk 2147483650) m.1) (g_u m.2 + 128) (g_q m.2 + 1)) (g_x (y_set (upC m.2 (c_del l (g_c m.2))) l (sk 2147483648) (sk 2147483650) m.1)) ((l * 128 + 1) :: l * 128 :: g_k (y_set (upC m.2 (c_del l (g_c m.2))) l (sk 2147483648) (sk 2147483650) m.1))) h' → Q (some (.int 1)) h' := by
      intro ad' hA1 hfin
      have h3 : ∀ c i q, c < 1000 → I2.2.2 c i = some q → ad' c i = some q := fun c i q hc e => by
        rw [hA1 c i (fun e => by unfold bkc at e; omega)]
        exact e
      have hgr : Gr I G (nu3, I2.2.1, ad') (upX (upU (y_set (upC m.2 (c_del l (g_c m.2))) l (sk 2147483648) (sk 2147483650) m.1) (g_u m.2 + 128) (g_q m.2 + 1)) (g_x (y_set (upC m.2 (c_del l (g_c m.2))) l (sk 2147483648) (sk 2147483650) m.1)) ((l * 128 + 1) :: l * 128 :: g_k (y_set (upC m.2 (c_del l (g_c m.2))) l (sk 2147483648) (sk 2147483650) m.1))) := gr_trans hg (gr_trans r2 (gr_trans hgz ⟨fun _ _ => rfl, Nat.le_refl _, fun _ _ => rfl, Nat.le_refl _, h3⟩))
      exact hE _ hmem (nu3, I2.2.1, ad') _ h' hgr hfin (sv_of_int (sk_IV c_1))
    rcases hA with ⟨b2, us2, x1, x2, x3, x4, x5, x6, x7⟩ | ⟨us2, M2, x1, x2, x3, x4, x5, x6, x7, x8, x9⟩
    · have hbb : bq0 = b2 := Value.ref.inj x1
      subst hbb
      have w6' : bq0 ≠ σ 5 ∧ (I2.2.2 (bkc l) 0 = some bq0 ∧ (h.1 bq0 = some (24, us) ∧ (N1 ≤ us.length ∧ (us.length ≤ 1000 ∧ ∀ k, k < N1 → ∃ u, us[k]? = some u ∧ ElOK I2.2.2 el ident k u)))) := by
        rcases w6 with ⟨-, y2, -, k, y3, y4⟩ | w6
        · rw [x2] at y4
          cases y4
          exact absurd x3 (Nat.not_lt_zero _)
        · exact w6
      obtain ⟨y1, y2, y3, y4, y5, y6⟩ := w6'
      rw [x2] at y3
      cases y3
      refine fin I2.2.2 (fun _ _ _ => rfl) (lst_set (I := (nu3, I2.2)) (ad' := I2.2.2) (h := h) (h' := h') (du := 128) (dq := 1) hl r3 hq2 z3 t1 ⟨t2, t3⟩ (fun _ _ _ => rfl) (Or.inl rfl) (fun a ha hb _ => x5 a ha (fun e => hb (by rw [e]; exact y2))) x6 ⟨by rw [x4]; exact Nat.le_refl _, by rw [x4]; exact Nat.le_succ _, by rw [x4]; exact Nat.le_add_right _ _⟩ ?_)
      refine ⟨_, _, _, N1 + 1, x6, by omega, Or.inr ⟨bq0, _, y2, rfl, x7, by rw [List.length_set]; omega, by rw [List.length_set]; exact y5, fun k hk => ?_⟩⟩
      by_cases ek : k = N1
      · subst ek
        exact ⟨_, List.getElem?_set_self x3, hEl⟩
      · obtain ⟨u, u1, u2⟩ := y6 k (by omega)
        exact ⟨u, by rw [List.getElem?_set_ne (fun e => ek e.symm)]; exact u1, u2⟩
    · have hus : us2 = us ∨ N1 = 0 := by
        rcases x1 with x1 | x1
        · rcases w6 with ⟨-, y2, y3, -⟩ | ⟨-, -, y3, -⟩
          · exact Or.inr y3
          · have x1 : h.1 bq0 = some (24, us2) := x1
            rw [x1] at y3
            cases y3
            exact Or.inl rfl
        · rw [x1] at x2
          exact Or.inr x2.symm
      have hA1 : ∀ c i, ¬ (c = bkc l ∧ i = 0) → (fun c i => if c = bkc l ∧ i = 0 then some h.2.1 else I2.2.2 c i : AD) c i = I2.2.2 c i := fun c i hc => if_neg hc
      have hA2 : (fun c i => if c = bkc l ∧ i = 0 then some h.2.1 else I2.2.2 c i : AD) (bkc l) 0 = some h.2.1 := if_pos ⟨rfl, rfl⟩
      generalize (fun c i => if c = bkc l ∧ i = 0 then some h.2.1 else I2.2.2 c i : AD) = ad' at hA1 hA2
      refine fin ad' hA1 (lst_set (I := (nu3, I2.2)) (ad' := ad') (h := h) (h' := h') (du := 128) (dq := 1) hl r3 hq2 z3 t1 ⟨t2, t3⟩ hA1 (Or.inr ⟨hA2, x8⟩) (fun a ha _ hlt => x5 a ha hlt) x6 ⟨by omega, by omega, by omega⟩ ?_)
      have hup : ∀ c i q, c < 1000 → I2.2.2 c i = some q → ad' c i = some q := fun c i q hc e => by
        rw [hA1 c i (fun e => by unfold bkc at e; omega)]
        exact e
      have elup : ∀ {k : Nat} {u : Value}, ElOK I2.2.2 el ident k u → ElOK ad' el ident k u := by
        intro k u hu
        rcases hu with ⟨u1, u2⟩ | ⟨u1, j, u2, u3⟩
        · exact Or.inl ⟨u1, ref_up hel hup u2⟩
        · exact Or.inr ⟨u1, j, u2, ref_up hel hup u3⟩
      refine ⟨_, _, _, N1 + 1, x6, by omega, Or.inr ⟨h.2.1, _, hA2, rfl, x7, ?_, ?_, fun k hk => ?_⟩⟩
      · rw [List.length_set, List.length_append, List.length_replicate]; omega
      · rw [List.length_set, List.length_append, List.length_replicate]; omega
      · by_cases ek : k = N1
        · subst ek
          exact ⟨_, List.getElem?_set_self (by rw [List.length_append, List.length_replicate]; omega), elup hEl⟩
        · rcases hus with hus | hus
          · subst hus
            rcases w6 with ⟨-, -, y3, -⟩ | ⟨-, -, -, -, -, y6⟩
            · omega
            · obtain ⟨u, u1, u2⟩ := y6 k (by omega)
              refine ⟨u, ?_, elup u2⟩
              rw [List.getElem?_set_ne (fun e => ek e.symm), List.getElem?_append_left (by omega)]
              exact u1
          · omega
end
