section
/-! ===== work days: calls answered by hand ===== -/
theorem wd_d : ((ct_at 10 0).map (fun t => t.1) = some 0 ∧ (ct_at 11 0).map (fun t => t.1) = some 0) ∧ (((cdm 2 = 0 ∧ 3 ≤ (cd 2).2.2.length) ∧ (sgl 11 = true ∧ mIsW = 59)) ∧ (mIsB = 197 ∧ r5K.length = r5K.length)) := by decide +kernel
section
variable {ad : AD} {h : AH} {np c i p q n k : Nat} {ex ho : Nat → Nat → Prop}
theorem int_at (hT : TS ad h np ex ho) (hc : c < 1000) (hm : cdm c = 0) (hct : (ct_at c p).map (fun t => t.1) = some 0) (hq : ad c i = some q) : ∃ x, At ad h c i p (.int x) := by
  cases e : ct_at c p with
  | none => rw [e] at hct; cases hct
  | some ty =>
    rw [e] at hct
    obtain ⟨v, h1, h2⟩ := fld hT hc hm e hq
    obtain ⟨x, rfl⟩ := tv_int h2 (Option.some.inj hct)
    exact ⟨x, h1⟩
theorem rowI_at (h1 : T1 ad h) (hc : arrI c n = true) (hq : ad c i = some q) (hk : cdk c = k) (hk2 : k ≠ 31) (hp : p < n) : ∃ x, At ad h c i p (.int x) := by
  obtain ⟨l, r1, r2⟩ := row_of h1 hc hq hk hk2
  refine ⟨l[p]'(by omega), q, k, _, hq, r1, ?_⟩
  rw [List.getElem?_map, List.getElem?_eq_getElem (by omega)]
  rfl
end
section
variable {B : BS} {I I' : IN} {n m : Nat} {G G' : SG} {h h' : AH} {σ : Nat → Nat} {Q : Option Value → AH → Prop} {as : List SV} {As : List Value} {es : List (Option SV × SG)}
/-- one number read -/
theorem rdI {c a b : Nat} {i j : SV} {X : Int32} {q : SV × SG} (hR : RM B I G h) (hc : c < 1000) (oi : okn (g_n G) i) (oj : okn (g_n G) j) (hi : isI i = true) (hj : isI j = true) (hi' : sval I.1 i = 2147483648 + a) (hj' : sval I.1 j = 2147483648 + b) (hV : At I.2.2 h c a b (.int X)) (hs : rd1 G c i j = some q) : ∃ nu', IV nu' (g_n q.2) q.1 X ∧ (RM B (nu', I.2) q.2 h ∧ Gr I G (nu', I.2) q.2) := by
  obtain ⟨nu1, s1, s2, s3⟩ := rd1_ok hR hc oi oj hi hj hi' hj' hV hs
  exact ⟨nu1, sv_int' s1, s2, gr_nh s3⟩
theorem iv_gr {s : SV} {X : Int32} (hv : IV I.1 (g_n G) s X) (hg : Gr I G I' G') : IV I'.1 (g_n G') s X := ⟨hv.1, okn_up hv.2.1 hg.2.1, by rw [sval_ag hv.2.1 hg.1]; exact hv.2.2⟩
theorem isw5_ok {x kr b d : SV} {ox qk ql kk bb dd : Nat} (hcn : ∀ M C, C ∈ cns M → C.1 < nC → CnOK σ C) (hB : ∀ a i, ¬ B.2 a i) (hσ : ∀ i, i < 6 → B.1.1 (stc i) 0 = some (σ i)) (hR : RM B I G h) (hAs : LM I (g_h G).length (g_n G) [x, kr] [.ref ox, .ref qk]) (hb : IV I.1 (g_n G) b (nI bb)) (hbb : bb < 4) (hd : IV I.1 (g_n G) d (nI dd)) (hdd : dd < 400)
    (hox : I.2.2 10 0 = some ox) (hok : okn (g_n G) (y_idx kr)) (hkr : sval I.1 (y_idx kr) = 2147483648 + kk) (hqk : I.2.2 2 kk = some qk) (hl : At I.2.2 h 2 kk 2 (.ref ql)) (hql : I.2.2 0 bb = some ql) (hdx : At I.2.2 h 10 0 0 (.int (nI dd))) (hdm : At I.2.2 h 11 0 0 (.int (nI dd))) (hkb : At I.2.2 h 48 0 kk (.int (nI bb)))
    (hs : hp_isw5 x kr b d G = some es) (hE : Ends B I G es Q) : Rt σ mIsW (codeOf mIsW) (am_args 0 [.ref ox, .ref qk]) [] h Q := by
  obtain ⟨⟨⟨c1, c2⟩, c1', c2'⟩, ⟨c3, c3'⟩, -, -⟩ := wd_c
  obtain ⟨⟨⟨⟨m10, c10⟩, m2, c22⟩, ⟨m00, c00⟩, -⟩, ⟨⟨a18, k18⟩, -⟩, -⟩ := pm_c
  obtain ⟨⟨-, t05, -⟩, -, -, -⟩ := pm_t
  obtain ⟨⟨w11, -⟩, -⟩ := wd_ck
  have hT := hR.2.2.2.1
  obtain ⟨mq, hmq⟩ := hT.2.2.2.1.2.1 11 wd_d.2.1.2.1
  obtain ⟨qv, -, u2⟩ := fld_own hT (by omega) m00 t05 hql
  obtain ⟨qh, -, v2⟩ := fld_sgl hT (by omega) m10 c3 hox
  obtain ⟨qm, -, z2⟩ := fld_sgl hT (by omega) w11 c3' hmq
  obtain ⟨v3, h3⟩ := rowI_at (p := 3) hT.1 a18 u2 k18 (by omega) (by omega)
  obtain ⟨v4, h4⟩ := rowI_at (p := 4) hT.1 a18 u2 k18 (by omega) (by omega)
  obtain ⟨hx, hhx⟩ := rowI_at (p := dd) hT.1 c1 v2 c2 (by omega) hdd
  obtain ⟨hm, hhm⟩ := rowI_at (p := dd) hT.1 c1' z2 c2' (by omega) hdd
  have eb : ∀ {J : Nat → Nat} {m : Nat}, IV J m b (nI bb) → sval J b = 2147483648 + bb := fun hv => by rw [← hv.2.2, nI_ok (by omega)]; omega
  have ed : ∀ {J : Nat → Nat} {m : Nat}, IV J m d (nI dd) → sval J d = 2147483648 + dd := fun hv => by rw [← hv.2.2, nI_ok (by omega)]; omega
  unfold hp_isw5 at hs
  split at hs
  · cases hs
  rename_i q3 r3
  obtain ⟨nu3, i3, R3, g3⟩ := rdI (b := 3) hR (by omega) hb.2.1 sk_okn hb.1 rfl (eb hb) sk_val h3 r3
  have b3 := iv_gr (I' := (nu3, I.2)) hb g3
  split at hs
  · cases hs
  rename_i q4 r4
  obtain ⟨nu4, i4, R4, g4⟩ := rdI (I := (nu3, I.2)) (b := 4) R3 (by omega) b3.2.1 sk_okn b3.1 rfl (eb b3) sk_val h4 r4
  have g4 := gr_trans g3 g4
  have d4 := iv_gr (I' := (nu4, I.2)) hd g4
  split at hs
  · cases hs
  rename_i q5 r5
  obtain ⟨nu5, i5, R5', g5⟩ := rdI (I := (nu4, I.2)) (a := 0) R4 (by omega) sk_okn d4.2.1 rfl d4.1 sk_val (ed d4) hhx r5
  have d5 := iv_gr (I' := (nu5, I.2)) d4 g5
  split at hs
  · cases hs
  rename_i q6 r6
  obtain ⟨nu6, i6, R6, g6⟩ := rdI (I := (nu5, I.2)) (a := 0) R5' (by omega) sk_okn d5.2.1 rfl d5.1 sk_val (ed d5) hhm r6
  have i5' := iv_gr (I' := (nu6, I.2)) i5 g6
  have gg := gr_trans g4 (gr_trans g5 g6)
  replace hs := bif_some hs
  obtain ⟨e1, hs⟩ := hs
  have e1 := veq_ok e1
  have ehm : hx = hm := i2n_inj (by rw [i5'.2.2, i6.2.2, e1])
  subst ehm
  split at hs
  · cases hs
  rename_i es' hes
  replace hs := bif_some hs
  obtain ⟨b4, hs⟩ := hs
  have e := Option.some.inj hs
  subst e
  have huse := use_ok hcn hB hσ R6 (lm_gr gg hAs) hes
  have hff := X_isWorkDay (σ := σ) (Q := fun v h' => v = some (.int (wdI (nI dd) v3 v4 hx)) ∧ h' = h) hT hox hqk hdx hdd hl hql h3 h4 hhx ⟨rfl, rfl⟩
  refine rt_mono (rt_and huse hff) fun v h' ⟨⟨q', z1, I', z2, z3, z4⟩, z5, z6⟩ => ?_
  subst z5
  subst z6
  have b5 := List.all_eq_true.mp b4 q' z1
  have gg2 : Gr I G I' q'.2 := gr_trans gg z2
  split at b5
  · rename_i r hr
    rw [hr] at z4
    obtain ⟨ri, ro, rv⟩ := sv_int' z4
    refine hE (some r, y_put q'.2 2 (y_idx kr) (15, 0, 0) r) (List.mem_map.mpr ⟨q', z1, by rw [hr]⟩) I' _ h' gg2 ?_ z4
    refine rm_cell z3 ⟨okn_up hok gg2.2.1, fun e => (by cases e), by show 2 < 1000; omega, Or.inr (Or.inr (Or.inr ⟨by show 10 ≤ 15; omega, ri, ro, ?_⟩))⟩
    show PX 15 I'.2.2 h' 2 (sval I'.1 (y_idx kr)) (sval I'.1 r)
    have up : ∀ {c i p : Nat} {v : Value}, c < 1000 → At I.2.2 h' c i p v → At I'.2.2 h' c i p v := fun {c i p v} hc ⟨q, k, vs, a1, a2, a3⟩ => ⟨q, k, vs, gg2.2.2.2.2 c i q hc a1, a2, a3⟩
    unfold PX
    rw [show Nat.beq 15 10 = false from rfl, cond_false, show Nat.beq 15 15 = true from rfl, cond_true, sval_ag hok gg2.1, hkr, ← rv]
    unfold PXW
    rw [Nat.add_sub_cancel_left]
    exact ⟨dd, bb, v3, v4, hx, ⟨Nat.le_add_right _ _, hdd, hbb⟩, ⟨up (by omega) hdm, up (by omega) hkb⟩, ⟨up (by omega) h3, up (by omega) h4⟩, up (by omega) hhm, rfl⟩
  · cases b5
theorem isw_ok (hcn : ∀ M C, C ∈ cns M → C.1 < nC → CnOK σ C) (hB : ∀ a i, ¬ B.2 a i) (hσ : ∀ i, i < 6 → B.1.1 (stc i) 0 = some (σ i)) (hR : RM B I G h) (hAs : LM I (g_h G).length (g_n G) as As) (hs : hp_isw as G = some es) (hE : Ends B I G es Q) : Rt σ mIsW (codeOf mIsW) (am_args 0 As) [] h Q := by
  obtain ⟨⟨d10, d11⟩, ⟨⟨-, l2⟩, sg, -⟩, -⟩ := wd_d
  obtain ⟨⟨⟨⟨m10, -⟩, m2, -⟩, -⟩, ⟨-, a48, k48⟩, -⟩ := pm_c
  obtain ⟨⟨-, -, t1⟩, -⟩ := pm_t
  obtain ⟨⟨w11, -⟩, -⟩ := wd_ck
  have hT := hR.2.2.2.1
  unfold hp_isw at hs
  split at hs
  · rename_i x kr
    replace hs := bif_some hs
    obtain ⟨g, hs⟩ := hs
    obtain ⟨g, gf⟩ := and2 g
    obtain ⟨g1, g⟩ := and2 g
    obtain ⟨g2, g3⟩ := and2 g
    have g1 := veq_ok g1
    have g3 := beqt g3
    subst g1
    have hAs0 := hAs
    obtain ⟨Vx, r1, rfl, l1, q1⟩ := lm_cons hAs
    obtain ⟨Vk, r2', rfl, lk, q2⟩ := lm_cons q1
    have q3 := lm_nil q2
    subst q3
    obtain ⟨ox, rfl, hox⟩ := sgl_arg (q := 0) l1
    obtain ⟨n1, n2⟩ := and2 g2
    have n2 := blet n2
    obtain ⟨o1, o2, o3⟩ := sv_typ lk n1
    have bv := itv_ok hR.1.1 (y_idx kr)
    rcases o3 with ⟨o4, -⟩ | ⟨o4, qk, o5, rfl⟩
    · omega
    · rw [g3] at o5
      obtain ⟨kk, ekk⟩ : ∃ kk, sval I.1 (y_idx kr) = 2147483648 + kk := ⟨sval I.1 (y_idx kr) - 2147483648, by omega⟩
      rw [ekk, Nat.add_sub_cancel_left] at o5
      have hkk : kk < 24 := by
        have := y_le_ok hR.1 o1 sk_okn gf
        rw [sk_val, ekk] at this
        omega
      obtain ⟨mq, hmq⟩ := hT.2.2.2.1.2.1 11 sg
      obtain ⟨dv, hdv⟩ := int_at hT (by omega) m10 d10 hox
      obtain ⟨mv, hmv⟩ := int_at hT (by omega) w11 d11 hmq
      obtain ⟨V, hV, hVt⟩ : ∃ V, At I.2.2 h 2 kk 2 V ∧ True := by
        obtain ⟨-, k', vs, y1, -, y3, -⟩ := hT.1 2 kk qk (by omega) o5
        have := y3.1 m2
        exact ⟨_, ⟨qk, k', vs, o5, y1, List.getElem?_eq_getElem (by omega)⟩, True.intro⟩
      obtain ⟨q48, -, hq48⟩ := fld_sgl hT (by omega) w11 t1 hmq
      obtain ⟨kbv, hkb⟩ := rowI_at (p := kk) hT.1 a48 hq48 k48 (by omega) hkk
      split at hs
      · cases hs
      rename_i d rd
      obtain ⟨nu1, i1, R1, e1⟩ := rdI (I := I) (a := 0) (b := 0) hR (by omega) sk_okn sk_okn rfl rfl sk_val sk_val hdv rd
      split at hs
      · cases hs
      rename_i m rm
      obtain ⟨nu2, i2, R2', k2⟩ := rdI (I := (nu1, I.2)) (a := 0) (b := 0) R1 (by omega) sk_okn sk_okn rfl rfl sk_val sk_val hmv rm
      have i1' := iv_gr (I' := (nu2, I.2)) i1 k2
      have e2 := gr_trans e1 k2
      replace hs := bif_some hs
      obtain ⟨b1, hs⟩ := hs
      obtain ⟨b1, b2⟩ := and2 b1
      obtain ⟨b0, b1⟩ := and2 b1
      have b1 := veq_ok b1
      have edm : dv = mv := i2n_inj (by rw [i1'.2.2, i2.2.2, b1])
      subst edm
      obtain ⟨f1, f2⟩ := fit_ok (I := (nu2, I.2)) R2'.1 i1' b2
      obtain ⟨dd, edd⟩ : ∃ dd, i2n dv = 2147483648 + dd := ⟨i2n dv - 2147483648, by omega⟩
      have edv : dv = nI dd := r5nI edd (by omega)
      have hdd : dd < 400 := by omega
      subst edv
      split at hs
      · cases hs
      rename_i l rl
      have o1' := okn_up o1 e2.2.1
      have ekk' : sval nu2 (y_idx kr) = 2147483648 + kk := (sval_ag o1 e2.1).trans ekk
      obtain ⟨nu3, s3, R3, n3⟩ := rd1_ok (I := (nu2, I.2)) (a := kk) (b := 2) R2' (by omega) o1' sk_okn (idx_I _) rfl ekk' sk_val hV rl
      have e3 := gr_trans e2 (gr_nh (I := (nu2, I.2)) n3)
      replace hs := bif_some hs
      obtain ⟨t0, hs⟩ := hs
      obtain ⟨t0, t0'⟩ := and2 t0
      have t0' := beqt t0'
      split at hs
      · cases hs
      rename_i b rb
      obtain ⟨nu4, i4, R4, n4⟩ := rdI (I := (nu3, I.2)) (a := 0) (b := kk) R3 (by omega) sk_okn (okn_up o1 e3.2.1) rfl (idx_I _) sk_val ((sval_ag o1 e3.1).trans ekk) hkb rb
      have e4 := gr_trans e3 n4
      replace hs := bif_some hs
      obtain ⟨y1, hs⟩ := hs
      obtain ⟨y1, y2⟩ := and2 y1
      obtain ⟨y1, y0⟩ := and2 y1
      have y1 := veq_ok y1
      obtain ⟨x1, x2⟩ := fit_ok (I := (nu4, I.2)) R4.1 i4 y2
      obtain ⟨bb, ebb⟩ : ∃ bb, i2n kbv = 2147483648 + bb := ⟨i2n kbv - 2147483648, by omega⟩
      have ekb : kbv = nI bb := r5nI ebb (by omega)
      have hbb : bb < 4 := by omega
      subst ekb
      obtain ⟨p1, p2, p3⟩ := sv_typ s3 t0
      have esl : sval nu3 (y_idx l.1) = 2147483648 + bb := by
        have := sval_ag p1 n4.1
        rw [← this, y1, ← i4.2.2]
        exact ebb
      rcases p3 with ⟨p3, -⟩ | ⟨-, ql, p3, rfl⟩
      · replace p3 : sval nu3 (y_idx l.1) = 2147483647 := p3
        omega
      · replace p3 : I.2.2 l.1.2.1 (sval nu3 (y_idx l.1) - 2147483648) = some ql := p3
        rw [esl, Nat.add_sub_cancel_left, t0'] at p3
        exact isw5_ok (I := (nu4, I.2)) hcn hB hσ R4 (lm_gr e4 hAs0) i4 hbb (iv_gr (I' := (nu4, I.2)) i1' (gr_trans (gr_nh (I := (nu2, I.2)) n3) n4)) hdd hox (okn_up o1 e4.2.1) ((sval_ag o1 e4.1).trans ekk) o5 hV p3 hdv hmv hkb hs fun q hq I' v h' a1 a2 a3 => hE q hq I' v h' (gr_trans e4 a1) a2 a3
  · cases hs
theorem isbl_mem : ∀ {l : List (Bool × SG)} {o : List (Option SV × SG)}, hp_isbl as l = some o → ∀ p, p ∈ l → ∃ es, hp_use mIsB as p.2 = some es ∧ ∀ q, q ∈ es → (some (bif p.1 then sk 2147483649 else sk 2147483648), q.2) ∈ o := by
  intro l
  induction l with
  | nil => intro o _ p hp; cases hp
  | cons x r ih =>
    intro o ho p hp
    rw [hp_isbl] at ho
    split at ho
    · cases ho
    · rename_i es hes
      split at ho
      · cases ho
      · rename_i o' ho'
        cases ho
        rcases List.mem_cons.mp hp with rfl | hp
        · exact ⟨es, hes, fun q hq => List.mem_append_left _ (List.mem_map.mpr ⟨q, hq, rfl⟩)⟩
        · obtain ⟨es', h2, h3⟩ := ih ho' p hp
          exact ⟨es', h2, fun q hq => List.mem_append_right _ (h3 q hq)⟩
theorem isb_ok (h5 : R5 B.1.1 B.1.2) (hcn : ∀ M C, C ∈ cns M → C.1 < nC → CnOK σ C) (hB : ∀ a i, ¬ B.2 a i) (hσ : ∀ i, i < 6 → B.1.1 (stc i) 0 = some (σ i)) (hR : RM B I G h) (hAs : LM I (g_h G).length (g_n G) as As) (hs : hp_isb as G = some es) (hE : Ends B I G es Q) : Rt σ mIsB (codeOf mIsB) (am_args 0 As) [] h Q := by
  unfold hp_isb at hs
  split at hs
  · rename_i mm k
    replace hs := bif_some hs
    obtain ⟨g, hs⟩ := hs
    obtain ⟨g1, g⟩ := and2 g
    obtain ⟨g2, g4⟩ := and2 g
    have g1 := veq_ok g1
    subst g1
    split at hs
    · cases hs
    · rename_i v hv
      have hAs0 := hAs
      obtain ⟨Vm, r1, rfl, l1, q1⟩ := lm_cons hAs
      obtain ⟨Vk, r2', rfl, l2, q2⟩ := lm_cons q1
      have q3 := lm_nil q2
      subst q3
      obtain ⟨m, rfl, hm⟩ := sgl_arg (q := 0) l1
      obtain ⟨xk, rfl, hxk⟩ := sv_int l2 g2
      obtain ⟨-, -, -, z | ⟨z, -⟩ | ⟨z, -⟩ | ⟨-, z1, z2, z3⟩⟩ := hR.2.2.2.2.2.1 _ (c_find_ok hv)
      · exact absurd z.1 (by show ¬ isI ((15, 0, 0) : SV) = true; decide)
      · exact absurd z (by show ¬ (15 : Nat) = 8; omega)
      · exact absurd z (by show ¬ (15 : Nat) = 9; omega)
      · have z3 : PX 15 I.2.2 h 2 (sval I.1 k) (sval I.1 v) := z3
        have z1 : isI v = true := z1
        have z2 : okn (g_n G) v := z2
        unfold PX at z3
        rw [show Nat.beq 15 10 = false from rfl, cond_false, show Nat.beq 15 15 = true from rfl, cond_true] at z3
        unfold PXW at z3
        obtain ⟨dd, bb, v3, v4, hv', ⟨f0, hdd, hbb⟩, ⟨f1, f2⟩, ⟨f3, f4⟩, f5, f6⟩ := z3
        rw [← hxk.2.2] at f0 f2
        obtain ⟨kk, ekk⟩ : ∃ kk, i2n xk = 2147483648 + kk := ⟨i2n xk - 2147483648, by omega⟩
        rw [ekk, Nat.add_sub_cancel_left] at f2
        have hk31 : kk < 2147483648 := by
          have := i2n_z xk
          have := Int32.toInt_lt xk
          omega
        have exk : xk = nI kk := r5nI ekk hk31
        subst exk
        have h5' := r5_sc h5 g4 hR.2.2.2.2.2.2
        obtain ⟨n, bs, nm, ⟨hn, hbs⟩, ⟨-, -, h4⟩, h6, h7⟩ := h5' bb hbb
        obtain ⟨m', ol, ot, oy, A, Bl, s, ⟨d1, d1'⟩, d2, d3, d4⟩ := md_form2 hR.2.2.2.1 hbb hn h6 h7
        rw [hm] at d1
        cases d1
        have e3 := Value.int.inj (at_fun (h4 3 (by omega)) f3)
        have e4 := Value.int.inj (at_fun (h4 4 (by omega)) f4)
        obtain ⟨p, p1, p2, p3⟩ := y_eq_ok (x := v) (y := sk 2147483648) true false hR.1 z2 sk_okn
        rw [sk_val] at p2
        obtain ⟨es', u1, u2⟩ := isbl_mem hs p p1
        have hR2 := rm_nk' hR p3
        have gg := gr_nk (I := I) (nu' := I.1) p3
        have hu := use_ok hcn hB hσ hR2 (lm_gr gg hAs0) u1
        have hrun := M_isBarred (σ := σ) (Q := fun w _ => w = some (.int (bif wdW (nI dd) v3 || wdH hv' v4 then 1 else 0))) hR.2.2.2.1 hm d1' d2 d3 hbb d4 f2 hk31 f1 hdd e3 e4 f5 (fun _ => rfl)
        refine rt_mono (rt_and hu hrun) fun w h' ⟨⟨q', y1, I', y2, y3, y4⟩, y5⟩ => ?_
        subst y5
        refine hE (some (bif p.1 then sk 2147483649 else sk 2147483648), q'.2) (u2 q' y1) I' _ h' (gr_trans gg y2) y3 ?_
        show SVm I' (g_h q'.2).length (g_n q'.2) (bif p.1 then sk 2147483649 else sk 2147483648) (.int (bif wdW (nI dd) v3 || wdH hv' v4 then 1 else 0))
        unfold wdI at f6
        cases hb : wdW (nI dd) v3 || wdH hv' v4
        · rw [hb, cond_false, c_1] at f6
          rw [if_neg (by omega)] at p2
          rw [p2, cond_false, cond_false]
          exact sv_of_int (sk_IV c_0)
        · rw [hb, cond_true, c_0] at f6
          rw [if_pos (by omega)] at p2
          rw [p2, cond_true, cond_true]
          exact sv_of_int (sk_IV c_1)
  · cases hs
/-! all of them -/
theorem hp_ok (h5 : R5 B.1.1 B.1.2) (h2 : useR2 = true → R2 B.1.1 B.1.2 ∧ (KNm B.1.1 B.1.2 ∧ npH = npL)) (hcn : ∀ M C, C ∈ cns M → C.1 < nC → CnOK σ C) (hB : ∀ a i, ¬ B.2 a i) (hσ : ∀ i, i < 6 → B.1.1 (stc i) 0 = some (σ i)) : HP σ B := by
  intro M as As G es I h Q hR hAs hs hE
  unfold hp at hs
  split at hs
  · rename_i r hr
    rw [hs] at hr
    exact hp_a_ok h5 hcn hB hσ hR hAs hr hE
  · replace hs := bif_some hs
    obtain ⟨hu, hs⟩ := hs
    obtain ⟨k1, k2, k3⟩ := h2 hu
    split at hs
    · rename_i es' hb
      have e := Option.some.inj (Option.some.inj hs)
      subst e
      unfold hp_b at hb
      cases e1 : Nat.beq M mReads
      · rw [e1, cond_false] at hb
        cases e2 : Nat.beq M mHasP
        · rw [e2, cond_false] at hb
          cases e3 : Nat.beq M mFreeF
          · rw [e3, cond_false] at hb
            cases e4 : Nat.beq M mFreeA
            · rw [e4, cond_false] at hb
              cases e5 : Nat.beq M mIsW
              · rw [e5, cond_false] at hb
                replace hb := bif_some hb
                obtain ⟨e6, hb⟩ := hb
                have e6 := beqt e6
                subst e6
                exact isb_ok h5 hcn hB hσ hR hAs hb hE
              · rw [e5, cond_true] at hb
                have e5 := beqt e5
                subst e5
                exact isw_ok hcn hB hσ hR hAs hb hE
            · rw [e4, cond_true] at hb
              have e4 := beqt e4
              subst e4
              exact freea_ok hcn hB hσ hR hAs hb hE
          · rw [e3, cond_true] at hb
            have e3 := beqt e3
            subst e3
            exact freef_ok hu k3 hcn hB hσ hR hAs hb hE
        · rw [e2, cond_true] at hb
          have e2 := beqt e2
          subst e2
          exact hasp_ok k1 k2 hcn hB hσ hR hAs hb hE
      · rw [e1, cond_true] at hb
        have e1 := beqt e1
        subst e1
        exact reads_ok h5 hcn hB hσ hR hAs hb hE
    · cases hs
end
end
