/-! ===== calls by hand: the borough's text, permits, free feet ===== -/
noncomputable def R2 (ad : AD) (h : AH) : Prop := ∃ (n : Nat) (pk pf pt : Nat → Int32), (n ≤ 60 ∧ At ad h 11 0 19 (.int (nI n))) ∧ ((∀ p, p < n → At ad h 62 0 p (.int (pk p)) ∧ (At ad h 63 0 p (.int (pf p)) ∧ (At ad h 64 0 p (.int (pt p)) ∧ ∃ k, pk p = nI k ∧ (k < 2147483648 ∧ ad 2 k ≠ none)))) ∧ ∀ k, ad 2 k ≠ none → ∀ d, d < 400 → At ad h 24 k d (.int (hpI (hpB pk pf pt (nI k) (nI d) n))))
noncomputable def KNm (ad : AD) (h : AH) : Prop := ∃ N, N ≤ 24 ∧ (At ad h 11 0 2 (.int (nI N)) ∧ ∀ k, ad 2 k ≠ none ↔ k < N)
theorem r2_ck : (cdm 11 = 0 ∧ ((1 ≤ cdm 24 ∧ 1 ≤ cdm 62) ∧ (1 ≤ cdm 63 ∧ 1 ≤ cdm 64))) ∧ (r2K = [11 * 128 + 2, 11 * 128 + 19, 24 * 128, 62 * 128, 63 * 128, 64 * 128] ∧ (cdm 11 = 0 ∧ (0 < (cd 11).2.2.length ∧ (ct_at 11 0).map (fun t => t.1) = some 0))) := by decide +kernel
theorem m_ne' : (11 ≠ kMty ∧ 11 ≠ kMby) ∧ (11 ≠ kMla ∧ (kMla ≠ kMty ∧ kMla < 1000)) := by decide +kernel
theorem map_int_inj : ∀ {l r : List Int32}, l.map Value.int = r.map Value.int → l = r := by
  intro l
  induction l with
  | nil => intro r h; cases r with
    | nil => rfl
    | cons => cases h
  | cons a l ih => intro r h; cases r with
    | nil => cases h
    | cons b r =>
      rw [List.map_cons, List.map_cons] at h
      obtain ⟨h1, h2⟩ := List.cons.inj h
      rw [ih h2, Value.int.inj h1]
section
variable {B : BS} {I I' : IN} {n m : Nat} {G G' : SG} {h h' : AH} {σ : Nat → Nat} {Q : Option Value → AH → Prop} {K : List Nat} {u q c i p M : Nat} {v : Value} {as : List SV} {As : List Value} {es : List (Option SV × SG)}
theorem use_ok (hcn : ∀ M C, C ∈ cns M → C.1 < nC → CnOK σ C) (hB : ∀ a i, ¬ B.2 a i) (hσ : ∀ i, i < 6 → B.1.1 (stc i) 0 = some (σ i)) (hR : RM B I G h) (hAs : LM I (g_h G).length (g_n G) as As) (hs : hp_use M as G = some es) : Rt σ M (codeOf M) (am_args 0 As) [] h (fun v h' => ∃ q, q ∈ es ∧ ∃ I', Gr I G I' q.2 ∧ (RM B I' q.2 h' ∧ OVM I' (g_h q.2).length (g_n q.2) q.1 v)) := by
  unfold hp_use at hs
  split at hs
  · cases hs
  · rename_i C hC
    obtain ⟨k4, k5, k6⟩ := cn_find_ok hC
    have := y_use_ok (hcn _ C k4 k6) hB hσ hR hAs hs (Q := fun v h' => ∃ q, q ∈ es ∧ ∃ I', Gr I G I' q.2 ∧ (RM B I' q.2 h' ∧ OVM I' (g_h q.2).length (g_n q.2) q.1 v)) fun q hq I' v h' a1 a2 a3 => ⟨q, hq, I', a1, a2, a3⟩
    rw [k5] at this
    exact this
theorem rd1_ok {c a b : Nat} {i j : SV} {V : Value} {q : SV × SG} (hR : RM B I G h) (hc : c < 1000) (oi : okn (g_n G) i) (oj : okn (g_n G) j) (hi : isI i = true) (hj : isI j = true) (hi' : sval I.1 i = 2147483648 + a) (hj' : sval I.1 j = 2147483648 + b) (hV : At I.2.2 h c a b V) (hs : rd1 G c i j = some q) : ∃ nu', SVm (nu', I.2) (g_h q.2).length (g_n q.2) q.1 V ∧ (RM B (nu', I.2) q.2 h ∧ NH I G nu' q.2) := by
  unfold rd1 at hs
  split at hs
  · rename_i q' hl
    have e := Option.some.inj hs
    subst e
    obtain ⟨p, p1, nu', p2, p3, p4⟩ := y_read_ok (I := I) hR hc oi oj hi hj hi' hj' hV hl
    rw [List.mem_singleton.mp p1] at p2 p3 p4
    exact ⟨nu', p2, p3, p4⟩
  · cases hs
theorem sgl_arg {c q : Nat} {V : Value} (hs : SVm I n m (7, c, 2147483648) V) : ∃ q, V = .ref q ∧ I.2.2 c 0 = some q := by
  obtain ⟨-, -, o3⟩ := sv_typ hs rfl
  rcases o3 with ⟨o4, -⟩ | ⟨-, q, o5, rfl⟩
  · have : (2147483648 : Nat) = 2147483647 := o4
    omega
  · replace o5 : I.2.2 c (2147483648 - 2147483648) = some q := o5
    rw [Nat.sub_self] at o5
    exact ⟨q, rfl, o5⟩
/-! permits -/
theorem hasl_mem : ∀ {l : List (SV × SG)} {o : List (Option SV × SG)}, hp_hasl as l = some o → ∀ p, p ∈ l → ∃ es, hp_use mHasP as p.2 = some es ∧ ∀ q, q ∈ es → (some p.1, q.2) ∈ o := by
  intro l
  induction l with
  | nil => intro o _ p hp; cases hp
  | cons x r ih =>
    intro o ho p hp
    rw [hp_hasl] at ho
    split at ho
    · cases ho
    · rename_i es hes
      split at ho
      · cases ho
      · rename_i o' ho'
        cases ho
        rcases List.mem_cons.mp hp with rfl | hp
        · exact ⟨es, hes, fun q hq => List.mem_append_left _ (List.mem_map.mpr ⟨q, hq, rfl⟩)⟩
        · obtain ⟨es', h2, h3⟩ := ih ho' p hp
          exact ⟨es', h2, fun q hq => List.mem_append_right _ (h3 q hq)⟩
theorem hasp_ok (h2 : R2 B.1.1 B.1.2) (hk : KNm B.1.1 B.1.2) (hcn : ∀ M C, C ∈ cns M → C.1 < nC → CnOK σ C) (hB : ∀ a i, ¬ B.2 a i) (hσ : ∀ i, i < 6 → B.1.1 (stc i) 0 = some (σ i)) (hR : RM B I G h) (hAs : LM I (g_h G).length (g_n G) as As) (hs : hp_hasp as G = some es) (hE : Ends B I G es Q) : Rt σ mHasP (codeOf mHasP) (am_args 0 As) [] h Q := by
  obtain ⟨⟨c0, ⟨c1, c2⟩, c3, c4⟩, c5, c6, c7, c8⟩ := r2_ck
  unfold hp_hasp at hs
  split at hs
  · rename_i mm k
    replace hs := bif_some hs
    obtain ⟨g, hs⟩ := hs
    obtain ⟨g1, g⟩ := and2 g
    obtain ⟨g2, g⟩ := and2 g
    obtain ⟨g3, g4⟩ := and2 g
    have g1 := veq_ok g1
    subst g1
    have hd := kdis_ok g4
    rw [c5] at hd
    have hSc := hR.2.2.2.2.2.2
    obtain ⟨Vm, r1, rfl, l1, q1⟩ := lm_cons hAs
    obtain ⟨Vk, r2', rfl, l2, q2⟩ := lm_cons q1
    have q3 := lm_nil q2
    subst q3
    obtain ⟨m, rfl, hm⟩ := sgl_arg (q := 0) l1
    obtain ⟨xk, rfl, hxk⟩ := sv_int l2 g2
    split at hs
    · cases hs
    · rename_i n hn
      replace hs := bif_some hs
      obtain ⟨b1, hs⟩ := hs
      obtain ⟨b1, b2⟩ := and2 b1
      obtain ⟨N, k1, k2, k3⟩ := hk
      have hN : At I.2.2 h 11 0 2 (.int (nI N)) := at_sc k2 (by omega) (by rw [kcode_o c0]; exact hd _ (by simp)) hSc
      have hcell := find_ok (i := sk 2147483648) (j := sk 2147483650) (a := 0) (b := 2) hR rfl (sk_val (nu := I.1)) (sk_val (nu := I.1)) hN hn
      have hnv := sv_int' hcell
      have e1 : sval I.1 n = 2147483648 + N := by rw [← hnv.2.2, nI_ok (by omega)]; omega
      have e2 := y_le_ok hR.1 hxk.2.1 hnv.2.1 b2
      have e3 := y_le_ok hR.1 sk_okn hxk.2.1 g3
      rw [sk_val] at e3
      have exk := hxk.2.2
      obtain ⟨kk, ekk⟩ : ∃ kk, i2n xk = 2147483648 + kk := ⟨i2n xk - 2147483648, by omega⟩
      have hkN : kk < N := by omega
      have exk' : xk = nI kk := r5nI ekk (by omega)
      split at hs
      · cases hs
      · rename_i d hd1
        replace hs := bif_some hs
        obtain ⟨d1, hs⟩ := hs
        obtain ⟨d1, d2⟩ := and2 d1
        -- the day
        obtain ⟨dv, hdv⟩ : ∃ dv, At I.2.2 h 11 0 0 (.int dv) := by
          obtain ⟨-, k', vs, y1, -, y3, y4⟩ := hR.2.2.2.1.1 11 0 m (by omega) hm
          have hl := y3.1 c6
          have hp : 0 < vs.length := by omega
          obtain ⟨ty, t1, t2⟩ := y4 0 _ (List.getElem?_eq_getElem hp)
          rw [t1] at c8
          obtain ⟨x, ex⟩ := tv_int t2 (Option.some.inj c8)
          exact ⟨x, m, k', vs, hm, y1, by rw [List.getElem?_eq_getElem hp, ex]⟩
        obtain ⟨nu1, s1, s2, s3⟩ := rd1_ok (I := I) (a := 0) (b := 0) hR (by omega) sk_okn sk_okn rfl rfl sk_val sk_val hdv hd1
        have hdI := sv_int' s1
        obtain ⟨w1, w2⟩ := fit_ok (I := (nu1, I.2)) s2.1 hdI d2
        obtain ⟨dd, edd⟩ : ∃ dd, i2n dv = 2147483648 + dd := ⟨i2n dv - 2147483648, by omega⟩
        have edv : dv = nI dd := r5nI edd (by omega)
        split at hs
        · cases hs
        · rename_i l hl
          obtain ⟨np', pk, pf, pt, ⟨p1, p2⟩, p3, p4⟩ := h2
          have hK : At I.2.2 h 24 kk dd (.int (hpI (hpB pk pf pt (nI kk) (nI dd) np'))) := at_sc (p4 kk ((k3 kk).mpr hkN) dd (by omega)) (by omega) (by rw [kcode_r c1]; exact hd _ (by simp)) hSc
          obtain ⟨p, u1, nu2, u2, u3, u4⟩ := y_read_ok (I := (nu1, I.2)) (a := kk) (b := dd) s2 (by omega) (okn_up hxk.2.1 s3.2.1) hdI.2.1 g2 d1 (by show sval nu1 k = _; rw [sval_ag hxk.2.1 s3.1, ← exk]; exact ekk) (by show sval nu1 d.1 = _; rw [← hdI.2.2]; exact edd) hK hl
          obtain ⟨es', v1, v2⟩ := hasl_mem hs p u1
          have g13 : Gr I G (nu2, I.2) p.2 := gr_trans (gr_nh s3) (gr_nh (I := (nu1, I.2)) u4)
          have hu := use_ok hcn hB hσ u3 (lm_gr g13 hAs) v1
          have hmh := M_hasp (σ := σ) (n := np') (pk := pk) (pf := pf) (pt := pt) (k := nI kk) (d := dv) (Q := fun v _ => v = some (.int (hpI (hpB pk pf pt (nI kk) (nI dd) np')))) hR.2.2.2.1 hm ⟨⟨p1, at_sc p2 (by omega) (by rw [kcode_o c0]; exact hd _ (by simp)) hSc, hdv⟩, fun p hp => ⟨at_sc (p3 p hp).1 (by omega) (by rw [kcode_r c2]; exact hd _ (by simp)) hSc, at_sc (p3 p hp).2.1 (by omega) (by rw [kcode_r c3]; exact hd _ (by simp)) hSc, at_sc (p3 p hp).2.2.1 (by omega) (by rw [kcode_r c4]; exact hd _ (by simp)) hSc⟩⟩ (by rw [edv])
          rw [← exk'] at hmh
          have u2' : SVm (nu2, I.2) (g_h p.2).length (g_n p.2) p.1 (.int (hpI (hpB pk pf pt xk (nI dd) np'))) := by
            rw [exk']
            exact u2
          refine rt_mono (rt_and hu hmh) fun v h' ⟨⟨q', x1, I', x2, x3, _⟩, x4⟩ => ?_
          subst x4
          exact hE (some p.1, q'.2) (v2 q' x1) I' _ h' (gr_trans g13 x2) x3 (sv_gr x2 u2')
  · cases hs
/-! free feet -/
theorem freef_ok (hu : useR2 = true) (hnp : npH = npL) (hcn : ∀ M C, C ∈ cns M → C.1 < nC → CnOK σ C) (hB : ∀ a i, ¬ B.2 a i) (hσ : ∀ i, i < 6 → B.1.1 (stc i) 0 = some (σ i)) (hR : RM B I G h) (hAs : LM I (g_h G).length (g_n G) as As) (hs : hp_freef as G = some es) (hE : Ends B I G es Q) : Rt σ mFreeF (codeOf mFreeF) (am_args 0 As) [] h Q := by
  unfold hp_freef at hs
  split at hs
  · rename_i x kr
    replace hs := bif_some hs
    obtain ⟨g, hs⟩ := hs
    obtain ⟨g, g5⟩ := and2 g
    obtain ⟨g1, g⟩ := and2 g
    obtain ⟨g3, g4⟩ := and2 g
    have g1 := veq_ok g1
    have g4 := beqt g4
    subst g1
    have hX : g_x (y_close G) = [] := by
      cases hx : g_x (y_close G) with
      | nil => rfl
      | cons => rw [hx] at g5; cases g5
    have hRc := y_close_ok hR
    split at hs
    · rename_i a b ha hb
      replace hs := bif_some hs
      obtain ⟨b0, hs⟩ := hs
      obtain ⟨b1, b2'⟩ := and2 b0
      obtain ⟨b2, b3'⟩ := and2 b2'
      have b2e := veq_ok b2
      clear b2 b2' b0
      subst b2e
      have b3 := (beqt b3').trans hnp
      split at hs
      · cases hs
      · rename_i es' hes
        replace hs := bif_some hs
        obtain ⟨b4, hs⟩ := hs
        have e := Option.some.inj hs
        subst e
        obtain ⟨Vx, r1, rfl, l1, q1⟩ := lm_cons hAs
        obtain ⟨Vk, r2', rfl, l2, q2⟩ := lm_cons q1
        have q3 := lm_nil q2
        subst q3
        obtain ⟨ox, rfl, hox⟩ := sgl_arg (q := 0) l1
        obtain ⟨n1, n2⟩ := and2 g3
        have n2 := blet n2
        obtain ⟨o1, o2, o3⟩ := sv_typ l2 n1
        have bv := itv_ok hR.1.1 (y_idx kr)
        rcases o3 with ⟨o4, -⟩ | ⟨o4, qk, o5, rfl⟩
        · omega
        · rw [g4] at o5
          obtain ⟨kk, ekk⟩ : ∃ kk, sval I.1 (y_idx kr) = 2147483648 + kk := ⟨sval I.1 (y_idx kr) - 2147483648, by omega⟩
          rw [ekk, Nat.add_sub_cancel_left] at o5
          have hkk := (hR.2.2.2.1.1 2 kk qk (by omega) o5).1
          -- the two counts
          have cellA := hR.2.2.2.2.2.1 _ (c_find_ok ha)
          have cellB := hR.2.2.2.2.2.1 _ (c_find_ok hb)
          have get : ∀ {c j : Nat}, CellOK2 I (g_h G).length (g_n G) h (c, sk 2147483648, sk (2147483648 + j), a) → ∃ X, At I.2.2 h c 0 j (.int X) ∧ i2n X = sval I.1 a := fun {c j} hc => by
            obtain ⟨-, -, -, z | ⟨z, -⟩ | ⟨z, -⟩ | ⟨z, -⟩⟩ := hc
            · obtain ⟨-, i', j', V, z1, z2, z3, z4⟩ := z
              dsimp only at z1 z2 z3 z4
              rw [sk_val] at z1 z2
              have e1 : i' = 0 := by omega
              have e2 : j' = j := by omega
              subst e1; subst e2
              obtain ⟨X, rfl, hX⟩ := sv_int z4 b1
              exact ⟨X, z3, hX.2.2⟩
            · exact absurd z (by show ¬ (0 : Nat) = 8; omega)
            · exact absurd z (by show ¬ (0 : Nat) = 9; omega)
            · exact absurd z (by show ¬ 10 ≤ (0 : Nat); omega)
          obtain ⟨X, x1, x2⟩ := get (c := 13) (j := 2) cellA
          obtain ⟨Y, y1, y2⟩ := get (c := 11) (j := ffS) cellB
          have eXY : Y = X := i2n_inj (y2.trans x2.symm)
          subst eXY
          have hT : TS I.2.2 h npL (fun _ _ => False) B.2 := by
            have := hRc.2.2.2.1
            have ep : g_p (y_close G) = npL := b3
            rw [ep, hX] at this
            exact ts_ex this fun t k ⟨e, e1, _⟩ => by cases e1
          obtain ⟨n, sl, sz, lk, f, hF1, hF2⟩ := fc_form hu hT (k := kk) (by rw [o5]; exact fun e => by cases e) x1 y1
          have huse := use_ok hcn hB hσ hRc (As := [.ref ox, .ref qk]) hAs hes
          have hff := X_freeFeet (σ := σ) (Q := fun v h' => v = some (.int (ffF sl sz lk kk f n)) ∧ h' = h) hT hox o5 (by omega) hF1 ⟨rfl, rfl⟩
          refine rt_mono (rt_and huse hff) fun v h' ⟨⟨q', z1, I', z2, z3, z4⟩, z5, z6⟩ => ?_
          subst z5; subst z6
          have b5 := List.all_eq_true.mp b4 q' z1
          have gg : Gr I G I' q'.2 := gr_trans (gr_close (G := G)) z2
          split at b5
          · rename_i r hr
            rw [hr] at z4
            obtain ⟨ri, ro, rv⟩ := sv_int' z4
            refine hE (some r, y_put q'.2 2 (y_idx kr) (10, 0, 0) r) (List.mem_map.mpr ⟨q', z1, by rw [hr]⟩) I' _ h' gg ?_ z4
            refine rm_cell z3 ⟨okn_up o1 gg.2.1, fun e => (by cases e), by show 2 < 1000; omega, Or.inr (Or.inr (Or.inr ⟨Nat.le_refl 10, ri, ro, ?_⟩))⟩
            show PX 10 I'.2.2 h' 2 (sval I'.1 (y_idx kr)) (sval I'.1 r)
            have up : ∀ {c i p : Nat} {v : Value}, c < 1000 → At I.2.2 h' c i p v → At I'.2.2 h' c i p v := fun {c i p v} hc ⟨q, k, vs, a1, a2, a3⟩ => ⟨q, k, vs, gg.2.2.2.2 c i q hc a1, a2, a3⟩
            obtain ⟨-, -, ⟨⟨-, d3'⟩, ⟨-, d4'⟩, -, d5'⟩, -, d6'⟩ := md_ck
            obtain ⟨⟨hn, f1, f2⟩, f3, f4⟩ := hF2
            unfold PX
            rw [show Nat.beq 10 10 = true from rfl, cond_true, sval_ag o1 gg.1, ekk, Nat.add_sub_cancel_left, ← rv]
            exact ⟨n, sl, sz, lk, f, ⟨⟨Nat.le_add_right _ _, hn⟩, up (by omega) f1, up d3' f2⟩, fun s hs => ⟨up d4' (f3 s hs).1, up d5' (f3 s hs).2.1, (f3 s hs).2.2⟩, fun l hl => up d6' (f4 l hl), rfl⟩
          · cases b5
    · cases hs
  · cases hs
theorem freea_ok (hcn : ∀ M C, C ∈ cns M → C.1 < nC → CnOK σ C) (hB : ∀ a i, ¬ B.2 a i) (hσ : ∀ i, i < 6 → B.1.1 (stc i) 0 = some (σ i)) (hR : RM B I G h) (hAs : LM I (g_h G).length (g_n G) as As) (hs : hp_freea as G = some es) (hE : Ends B I G es Q) : Rt σ mFreeA (codeOf mFreeA) (am_args 0 As) [] h Q := by
  unfold hp_freea at hs
  split at hs
  · rename_i mm k
    replace hs := bif_some hs
    obtain ⟨g, hs⟩ := hs
    obtain ⟨g1, g2⟩ := and2 g
    have g1 := veq_ok g1
    subst g1
    split at hs
    · cases hs
    · rename_i v hv
      split at hs
      · cases hs
      · rename_i es' hes
        have e := Option.some.inj hs
        subst e
        obtain ⟨Vm, r1, rfl, l1, q1⟩ := lm_cons hAs
        obtain ⟨Vk, r2', rfl, l2, q2⟩ := lm_cons q1
        have q3 := lm_nil q2
        subst q3
        obtain ⟨m, rfl, hm⟩ := sgl_arg (q := 0) l1
        obtain ⟨xk, rfl, hxk⟩ := sv_int l2 g2
        obtain ⟨-, -, -, z | ⟨z, -⟩ | ⟨z, -⟩ | ⟨-, z1, z2, z3⟩⟩ := hR.2.2.2.2.2.1 _ (c_find_ok hv)
        · exact absurd z.1 (by show ¬ isI ((10, 0, 0) : SV) = true; decide)
        · exact absurd z (by show ¬ (10 : Nat) = 8; omega)
        · exact absurd z (by show ¬ (10 : Nat) = 9; omega)
        · have z3 : PX 10 I.2.2 h 2 (sval I.1 k) (sval I.1 v) := z3
          have z1 : isI v = true := z1
          have z2 : okn (g_n G) v := z2
          unfold PX at z3
          rw [show Nat.beq 10 10 = true from rfl, cond_true] at z3
          obtain ⟨n, sl, sz, lk, f, ⟨⟨f0, f0'⟩, f1, f2⟩, f3, f4, f5⟩ := z3
          rw [← hxk.2.2] at f0 f2 f5
          obtain ⟨kk, ekk⟩ : ∃ kk, i2n xk = 2147483648 + kk := ⟨i2n xk - 2147483648, by omega⟩
          rw [ekk, Nat.add_sub_cancel_left] at f2 f5
          have hk31 : kk < 2147483648 := by
            have := i2n_z xk
            have := Int32.toInt_lt xk
            omega
          have exk : xk = nI kk := r5nI ekk hk31
          subst exk
          have hu := use_ok hcn hB hσ hR (As := [.ref m, .int (nI kk)]) hAs hes
          have hff := M_freeAt (σ := σ) (Q := fun v h' => v = some (.int (ffF sl sz lk kk f n)) ∧ h' = h) hR.2.2.2.1 hm hk31 ⟨⟨f0', f1, f2⟩, f3, f4⟩ ⟨rfl, rfl⟩
          refine rt_mono (rt_and hu hff) fun w h' ⟨⟨q', y1, I', y2, y3, y4⟩, y5, y6⟩ => ?_
          subst y5
          exact hE (some v, q'.2) (List.mem_map.mpr ⟨q', y1, rfl⟩) I' _ h' y2 y3 (sv_gr y2 (sv_of_int ⟨z1, z2, f5⟩))
  · cases hs
/-! the law of a borough is read -/
def RD (I : IN) (n m : Nat) (X : Nat → Int32) : List Nat → List SV → Prop
  | w :: r, v :: s => SVm I n m v (.int (X w)) ∧ RD I n m X r s
  | [], [] => True
  | _, _ => False
theorem rd_gr {X : Nat → Int32} (hg : Gr I G I' G') : ∀ {l : List Nat} {vs : List SV}, RD I (g_h G).length (g_n G) X l vs → RD I' (g_h G').length (g_n G') X l vs := by
  intro l
  induction l with
  | nil => intro vs h; cases vs with
    | nil => exact True.intro
    | cons => exact h
  | cons w r ih => intro vs h; cases vs with
    | nil => exact h
    | cons v s => exact ⟨sv_gr hg h.1, ih h.2⟩
theorem rd6_ok {b : SV} {bb : Nat} {X : Nat → Int32} (hb : isI b = true) : ∀ {l : List Nat} {I : IN} {G : SG} {o : List SV × SG}, RM B I G h → okn (g_n G) b → sval I.1 b = 2147483648 + bb → (∀ w, w ∈ l → At I.2.2 h 18 bb w (.int (X w))) → rd6 b l G = some o → ∃ nu', RD (nu', I.2) (g_h o.2).length (g_n o.2) X l o.1 ∧ (RM B (nu', I.2) o.2 h ∧ Gr I G (nu', I.2) o.2) := by
  intro l
  induction l with
  | nil =>
    intro I G o hR _ _ _ hs
    rw [rd6] at hs
    cases hs
    exact ⟨I.1, True.intro, hR, gr_refl _ _⟩
  | cons w r ih =>
    intro I G o hR ho hv hX hs
    rw [rd6] at hs
    split at hs
    · cases hs
    · rename_i q hq
      split at hs
      · cases hs
      · rename_i o' ho'
        have e := Option.some.inj hs
        subst e
        obtain ⟨nu1, s1, s2, s3⟩ := rd1_ok (I := I) (a := bb) (b := w) hR (by omega) ho sk_okn hb rfl hv sk_val (hX w List.mem_cons_self) hq
        obtain ⟨nu2, t1, t2, t3⟩ := ih (I := (nu1, I.2)) s2 (okn_up ho s3.2.1) (by show sval nu1 b = _; rw [sval_ag ho s3.1]; exact hv) (fun w hw => hX w (List.mem_cons_of_mem _ hw)) ho'
        exact ⟨nu2, ⟨sv_gr t3 s1, t1⟩, t2, gr_trans (gr_nh s3) t3⟩
theorem put6_ok {X : Nat → Int32} : ∀ {l : List Nat} {vs : List SV} {w : Nat} {G : SG}, RM B I G h → kMla < 1000 → (∀ j, l[j]? = some (w + j) ∨ l[j]? = none) → RD I (g_h G).length (g_n G) X l vs → (∀ j, j ∈ l → At I.2.2 h kMla 0 j (.int (X j))) → RM B I (put6 vs w G) h ∧ ((g_h (put6 vs w G)).length = (g_h G).length ∧ (g_n (put6 vs w G) = g_n G ∧ (Gr I G I (put6 vs w G)))) := by
  intro l
  induction l with
  | nil =>
    intro vs w G hR _ _ hd _
    cases vs with
    | nil => exact ⟨hR, rfl, rfl, gr_refl _ _⟩
    | cons => exact hd.elim
  | cons x r ih =>
    intro vs w G hR hk hl hd hX
    cases vs with
    | nil => exact hd.elim
    | cons v s =>
      have ex : x = w := by
        rcases hl 0 with e | e
        · exact Option.some.inj e
        · cases e
      subst ex
      have h1 : RM B I (y_put G kMla (sk 2147483648) (sk (2147483648 + x)) v) h := rm_cell hR ⟨sk_okn, sk_okn, hk, Or.inl ⟨rfl, 0, x, _, sk_val, sk_val, hX x List.mem_cons_self, hd.1⟩⟩
      exact ih (G := y_put G kMla (sk 2147483648) (sk (2147483648 + x)) v) h1 hk (fun j => by
        have := hl (j + 1)
        rw [List.getElem?_cons_succ] at this
        rw [show x + 1 + j = x + (j + 1) by omega]
        exact this) hd.2 fun j hj => hX j (List.mem_cons_of_mem _ hj)
theorem reads_ok (h5 : R5 B.1.1 B.1.2) (hcn : ∀ M C, C ∈ cns M → C.1 < nC → CnOK σ C) (hB : ∀ a i, ¬ B.2 a i) (hσ : ∀ i, i < 6 → B.1.1 (stc i) 0 = some (σ i)) (hR : RM B I G h) (hAs : LM I (g_h G).length (g_n G) as As) (hs : hp_reads as G = some es) (hE : Ends B I G es Q) : Rt σ mReads (codeOf mReads) (am_args 0 As) [] h Q := by
  unfold hp_reads at hs
  split at hs
  · rename_i mm b
    replace hs := bif_some hs
    obtain ⟨g, hs⟩ := hs
    obtain ⟨g1, g⟩ := and2 g
    obtain ⟨g2, g⟩ := and2 g
    obtain ⟨g3, g4⟩ := and2 g
    have g1 := veq_ok g1
    subst g1
    split at hs
    · cases hs
    · rename_i o ho
      split at hs
      · cases hs
      · rename_i es' hes
        have e := Option.some.inj hs
        subst e
        obtain ⟨Vm, r1, rfl, l1, q1⟩ := lm_cons hAs
        obtain ⟨Vb, r2', rfl, l2, q2⟩ := lm_cons q1
        have q3 := lm_nil q2
        subst q3
        obtain ⟨m, rfl, hm⟩ := sgl_arg (q := 0) l1
        obtain ⟨xb, rfl, hb⟩ := sv_int l2 g2
        obtain ⟨b1, b2⟩ := fit_ok hR.1 hb g3
        obtain ⟨bb, ebb⟩ : ∃ bb, i2n xb = 2147483648 + bb := ⟨i2n xb - 2147483648, by omega⟩
        have lb : bb < 4 := by omega
        have exb := r5nI ebb (by omega)
        have h5' := r5_sc h5 g4 hR.2.2.2.2.2.2
        obtain ⟨n, bs, nm, ⟨hn, hbs⟩, ⟨-, -, h4⟩, h6, h7⟩ := h5' bb lb
        obtain ⟨nu1, s1, s2, s3⟩ := rd6_ok (bb := bb) (X := fun w => (txEnd (txAll bs n nm)).2.2.2.1.getD w 0) g2 hR hb.2.1 (hb.2.2.symm.trans ebb) (fun w hw => h4 w (by
          have : ∀ w, w ∈ [0, 1, 2, 3, 4, 5] → w < 6 := by decide
          exact this w hw)) ho
        have hu := use_ok hcn hB hσ s2 (lm_gr s3 hAs) hes
        obtain ⟨m', ol, ot, oy, A, Bl, s, ⟨d1, d1'⟩, d2, d3, d4⟩ := md_form2 hR.2.2.2.1 lb hn h6 h7
        rw [hm] at d1
        cases d1
        have hrd := M_reads (σ := σ) (nm := nm) (h := h) (B := Bl) (Q := fun _ h' => ∃ s' : MDS, s'.2.2.2.2 = (txEnd (txAll bs n nm)).2.2.2.1 ∧ h' = mdH h m ol A Bl s') d3 lb d4 fun s' hs' => ⟨s', hs', rfl⟩
        rw [d2, ← exb] at hrd
        refine rt_mono (rt_and hu hrd) fun v h' ⟨⟨q', z1, I', z2, z3, z4⟩, s', z5, z6⟩ => ?_
        obtain ⟨⟨-, -, -⟩, -, ⟨-, -⟩, -, m14, ⟨-, -⟩, m17⟩ := m_cls
        obtain ⟨-, -, -, kla⟩ := m_ne'
        have hol : I'.2.2 kMla 0 = some ol := z2.2.2.2.2 kMla 0 ol kla d1'
        obtain ⟨la, y1, y2⟩ := row_of z3.2.2.2.1.1 m14 hol m17 (by omega)
        have eol : h'.1 ol = some (20, s'.2.2.2.2.map .int) := by
          rw [z6]
          unfold mdH
          dsimp only
          rw [if_neg (fun e => d3.2.1.1 e.symm), if_pos rfl]
        have hla : s'.2.2.2.2 = la := by
          rw [y1] at eol
          have e := (Prod.mk.inj (Option.some.inj eol)).2
          exact (map_int_inj e).symm
        have hcell : ∀ j, j ∈ [0, 1, 2, 3, 4, 5] → At I'.2.2 h' kMla 0 j (.int ((txEnd (txAll bs n nm)).2.2.2.1.getD j 0)) := fun j hj => by
          have hj6 : j < 6 := by
            have : ∀ w, w ∈ [0, 1, 2, 3, 4, 5] → w < 6 := by decide
            exact this j hj
          refine ⟨ol, 20, _, hol, y1, ?_⟩
          rw [← z5, hla, List.getElem?_map, List.getElem?_eq_getElem (by omega), List.getD_eq_getElem?_getD, List.getElem?_eq_getElem (by omega)]
          rfl
        obtain ⟨p1, p2, p3, p4⟩ := put6_ok (w := 0) (l := [0, 1, 2, 3, 4, 5]) z3 kla (fun j => by
          rw [Nat.zero_add]
          match j with
          | 0 | 1 | 2 | 3 | 4 | 5 => exact Or.inl rfl
          | _ + 6 => exact Or.inr rfl) (rd_gr z2 s1) hcell
        refine hE (q'.1, put6 o.1 0 q'.2) (List.mem_map.mpr ⟨q', z1, rfl⟩) I' v h' (gr_trans (gr_trans s3 z2) p4) p1 ?_
        show OVM I' (g_h (put6 o.1 0 q'.2)).length (g_n (put6 o.1 0 q'.2)) q'.1 v
        rw [p2, p3]
        exact z4
  · cases hs
end
