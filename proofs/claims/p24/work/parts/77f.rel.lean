section
/-! ===== the texts of boroughs: class and model read the same bytes ===== -/
theorem rt_and {σ : Nat → Nat} {M : Nat} {cd : List (Nat × AI)} {L : LV} {S : List Value} {h : AH} {Q Q' : Option Value → AH → Prop} (h1 : Rt σ M cd L S h Q) (h2 : Rt σ M cd L S h Q') : Rt σ M cd L S h (fun v h' => Q v h' ∧ Q' v h') := by
  obtain ⟨f, v, g, e, q⟩ := h1
  obtain ⟨f', v', g', e', q'⟩ := h2
  have a := run_more f' _ _ _ _ _ _ e
  have b := run_more f _ _ _ _ _ _ e'
  rw [Nat.add_comm] at b
  rw [a] at b
  cases b
  exact ⟨f, v, g, e, q, q'⟩
theorem ints_of : ∀ {vs : List Value}, (∀ (p : Nat) (v : Value), vs[p]? = some v → ∃ x : Int32, v = Value.int x) → ∃ l : List Int32, vs = l.map Value.int := by
  intro vs
  induction vs with
  | nil => intro _; exact ⟨[], rfl⟩
  | cons v r ih =>
    intro h
    obtain ⟨x, hx⟩ := h 0 v rfl
    obtain ⟨l, hl⟩ := ih fun p w hp => h (p + 1) w hp
    exact ⟨x :: l, by rw [hx, hl]; rfl⟩
noncomputable def arrI (c m : Nat) : Bool := (Nat.beq (cdm c) (m + 1) && Nat.ble (m + 1) 999999) && ((match (cd c).2.2 with | [t] => Nat.beq t.1 0 | _ => false) && Nat.ble c 999)
section
variable {ad : AD} {h : AH} {c i q m k : Nat} {np : Nat} {ex ho : Nat → Nat → Prop}
theorem tv_int {ty : TY} {p : Nat} {v : Value} (h1 : TV ad ty i p v) (h0 : ty.1 = 0) : ∃ x, v = .int x := by
  rcases h1 with ⟨-, x, e, -⟩ | ⟨e, -⟩ | ⟨e, -⟩ | ⟨e, -⟩ | ⟨e, -⟩ | ⟨e, -⟩ | ⟨e, -⟩ | ⟨e, -⟩ | e
  · exact ⟨x, e⟩
  all_goals (rw [h0] at e; cases e)
theorem tv_own {ty : TY} {p : Nat} {v : Value} (h1 : TV ad ty i p v) (h0 : ty.1 = 4) : ∃ q, v = .ref q ∧ ad ty.2.1 i = some q := by
  rcases h1 with ⟨e, -⟩ | ⟨e, -⟩ | ⟨e, -⟩ | ⟨e, -⟩ | ⟨-, e⟩ | ⟨e, -⟩ | ⟨e, -⟩ | ⟨e, -⟩ | e
  · rw [h0] at e; cases e
  · rw [h0] at e; cases e
  · rw [h0] at e; cases e
  · rw [h0] at e; cases e
  · rcases e with ⟨e, -⟩ | ⟨-, q, e, rfl⟩
    · omega
    · rw [Nat.add_sub_cancel_left] at e
      exact ⟨q, rfl, e⟩
  all_goals (rw [h0] at e; cases e)
theorem tv_sgl {ty : TY} {p : Nat} {v : Value} (h1 : TV ad ty i p v) (h0 : ty.1 = 7) : ∃ q, v = .ref q ∧ ad ty.2.1 0 = some q := by
  rcases h1 with ⟨e, -⟩ | ⟨e, -⟩ | ⟨e, -⟩ | ⟨e, -⟩ | ⟨e, -⟩ | ⟨e, -⟩ | ⟨e, -⟩ | ⟨-, e⟩ | e
  · rw [h0] at e; cases e
  · rw [h0] at e; cases e
  · rw [h0] at e; cases e
  · rw [h0] at e; cases e
  · rw [h0] at e; cases e
  · rw [h0] at e; cases e
  · rw [h0] at e; cases e
  · rcases e with ⟨e, -⟩ | ⟨-, q, e, rfl⟩
    · omega
    · rw [Nat.sub_self] at e
      exact ⟨q, rfl, e⟩
  · rw [h0] at e; cases e
/-- a row of ints of a class -/
theorem row_of (h1 : T1 ad h) (hc : arrI c m = true) (hq : ad c i = some q) (hk : cdk c = k) (hk2 : k ≠ 31) : ∃ l : List Int32, h.1 q = some (k, l.map .int) ∧ l.length = m := by
  obtain ⟨c1, c2⟩ := and2 hc
  obtain ⟨c1, c3⟩ := and2 c1
  obtain ⟨c2, c4⟩ := and2 c2
  have c1 := beqt c1
  have c3 := blet c3
  have c4 := blet c4
  obtain ⟨-, k', vs, y1, y2, y3, y4⟩ := h1 c i q (by omega) hq
  obtain ⟨l, hl⟩ := ints_of fun p v hp => by
    obtain ⟨ty, t1, t2⟩ := y4 p v hp
    refine tv_int t2 ?_
    unfold ct_at at t1
    have e : Nat.beq (cdm c) 0 = false := by
      cases e : Nat.beq (cdm c) 0
      · rfl
      · have := beqt e
        omega
    rw [e, cond_false] at t1
    split at c2
    · rename_i t ht
      rw [ht] at t1
      cases t1
      exact beqt c2
    · cases c2
  have ek : k' = k := by
    rcases y2 with e | ⟨e, -⟩
    · rw [e, hk]
    · exact absurd (hk.symm.trans e) hk2
  subst hl
  refine ⟨l, by rw [y1, ek], ?_⟩
  have := y3.2.1 (by omega) (by omega)
  rw [List.length_map] at this
  omega
theorem ref_ne {c' i' q' : Nat} (h2 : T2 ad) (hq : ad c i = some q) (hq' : ad c' i' = some q') (hk : cdk c < 30) (hne : ¬ (c = c' ∧ i = i')) : q ≠ q' := fun e => by
  subst e
  rcases h2 _ _ _ _ _ hq hq' with h | ⟨⟨h, -⟩, -⟩
  · exact hne h
  · omega
theorem at_row {l : List Int32} {p : Nat} {x : Int32} (ha : At ad h c i p (.int x)) (hq : ad c i = some q) (hr : h.1 q = some (k, l.map .int)) : l[p]? = some x := by
  obtain ⟨q', k', vs, a1, a2, a3⟩ := ha
  rw [hq] at a1
  cases a1
  rw [hr] at a2
  cases a2
  rw [List.getElem?_map] at a3
  cases e : l[p]?
  · rw [e] at a3; cases a3
  · rw [e] at a3; cases a3; rfl
end
theorem m_cls : ((cdm 11 = 0 ∧ cdk 11 = 11) ∧ ((cd 11).2.2.length ≥ 30 ∧ sgl 11 = true)) ∧ (((ct_at 11 23 = some (7, kMty, 0) ∧ ct_at 11 24 = some (7, kMby, 0)) ∧ ct_at 11 28 = some (7, kMla, 0)) ∧ ((((ct_at 11 25).map (fun t => t.1) = some 0 ∧ (ct_at 11 26).map (fun t => t.1) = some 0) ∧ ((ct_at 11 27).map (fun t => t.1) = some 0 ∧ (ct_at 11 29).map (fun t => t.1) = some 0)) ∧ ((arrI kMty 5 = true ∧ arrI kMby 300 = true) ∧ (arrI kMla 6 = true ∧ ((cdk kMty = 20 ∧ cdk kMby = 20) ∧ cdk kMla = 20))))) := by decide +kernel
theorem m_ne : (11 ≠ kMty ∧ 11 ≠ kMby) ∧ (11 ≠ kMla ∧ (kMla ≠ kMty ∧ kMla ≠ kMby)) := by decide +kernel
theorem pull {vs : List Value} {k : Nat} {v : Value} (h : vs[k]? = some v) : vs.drop k = v :: vs.drop (k + 1) := by
  obtain ⟨h1, h2⟩ := List.getElem?_eq_some_iff.mp h
  rw [List.drop_eq_getElem_cons h1, h2]
/-- the heap as the model's texts see it -/
theorem md_form2 {ad : AD} {h : AH} {np b n : Nat} {ex ho : Nat → Nat → Prop} {bs : List Int32} (hT : TS ad h np ex ho) (hb : b < 4) (hn : n ≤ 60) (g1 : At ad h kMty 0 b (.int (nI n))) (g2 : ∀ j, j < n → At ad h kMby 0 (60 * b + j) (.int (bs.getD j 0))) :
    ∃ m ol ot oy A B s, (ad 11 0 = some m ∧ ad kMla 0 = some ol) ∧ (mdH h m ol A B s = h ∧ (MdD h m ol ot oy A b n bs ∧ s.2.2.2.2.length = 6)) := by
  obtain ⟨⟨⟨m1, m2⟩, m3, m4⟩, ⟨⟨m5, m6⟩, m7⟩, ⟨⟨m8, m9⟩, m10, m11⟩, ⟨m12, m13⟩, m14, ⟨m15, m16⟩, m17⟩ := m_cls
  obtain ⟨⟨n1, n2⟩, n3, n4, n5⟩ := m_ne
  obtain ⟨t1, t2, t3, t4, t5, t6⟩ := hT
  obtain ⟨m, hm⟩ := t4.2.1 11 m4
  obtain ⟨-, k, vs, y1, y2, y3, y4⟩ := t1 11 0 m (by omega) hm
  have ek : k = 11 := by
    rcases y2 with e | ⟨e, -⟩
    · rw [e, m2]
    · rw [m2] at e; cases e
  subst ek
  have hlen := y3.1 m1
  have fld : ∀ p, p < 30 → ∃ v ty, vs[p]? = some v ∧ (ct_at 11 p = some ty ∧ TV ad ty 0 p v) := fun p hp => by
    have h1 : p < vs.length := by omega
    obtain ⟨ty, a, b⟩ := y4 p _ (List.getElem?_eq_getElem h1)
    exact ⟨_, ty, List.getElem?_eq_getElem h1, a, b⟩
  have fi : ∀ p, p < 30 → (ct_at 11 p).map (fun t => t.1) = some 0 → ∃ x, vs[p]? = some (.int x) := fun p hp h1 => by
    obtain ⟨v, ty, a, b, c⟩ := fld p hp
    rw [b] at h1
    obtain ⟨x, e⟩ := tv_int c (Option.some.inj h1)
    exact ⟨x, by rw [a, e]⟩
  have fr : ∀ p c, p < 30 → ct_at 11 p = some (7, c, 0) → ∃ q, vs[p]? = some (.ref q) ∧ ad c 0 = some q := fun p c hp h1 => by
    obtain ⟨v, ty, a, b, d⟩ := fld p hp
    rw [h1] at b
    cases b
    obtain ⟨q, e1, e2⟩ := tv_sgl d rfl
    exact ⟨q, by rw [a, e1], e2⟩
  obtain ⟨x25, f25⟩ := fi 25 (by omega) m8
  obtain ⟨x26, f26⟩ := fi 26 (by omega) m9
  obtain ⟨x27, f27⟩ := fi 27 (by omega) m10
  obtain ⟨x29, f29⟩ := fi 29 (by omega) m11
  obtain ⟨ot, f23, hot⟩ := fr 23 _ (by omega) m5
  obtain ⟨oy, f24, hoy⟩ := fr 24 _ (by omega) m6
  obtain ⟨ol, f28, hol⟩ := fr 28 _ (by omega) m7
  obtain ⟨ty, r1, r2⟩ := row_of t1 m12 hot m15 (by omega)
  obtain ⟨yy, r3, r4⟩ := row_of t1 m13 hoy m16 (by omega)
  obtain ⟨la, r5, r6⟩ := row_of t1 m14 hol m17 (by omega)
  have hvs : vs = vs.take 25 ++ (.int x25 :: .int x26 :: .int x27 :: .ref ol :: .int x29 :: vs.drop 30) := by
    rw [← pull f29, ← pull f28, ← pull f27, ← pull f26, ← pull f25, List.take_append_drop]
  refine ⟨m, ol, ot, oy, vs.take 25, vs.drop 30, (x25, x26, x27, x29, la), ⟨hm, hol⟩, ?_, ⟨⟨?_, ?_, ?_⟩, ⟨?_, ?_, ?_, ?_, ?_⟩, by omega, hn, ⟨ty, r1, at_row g1 hot r1⟩, ⟨yy, r3, fun j hj => at_row (g2 j hj) hoy r3⟩⟩, r6⟩
  · unfold mdH mdF
    dsimp only
    rw [← hvs]
    refine Prod.ext (funext fun a => ?_) rfl
    dsimp only
    by_cases e : a = m
    · rw [if_pos e, e, y1]
    · rw [if_neg e]
      by_cases e2 : a = ol
      · rw [if_pos e2, e2, r5]
      · rw [if_neg e2]
  · rw [List.length_take]; omega
  · rw [List.getElem?_take_of_lt (by omega)]; exact f23
  · rw [List.getElem?_take_of_lt (by omega)]; exact f24
  · exact ref_ne t2 hm hol (by rw [m2]; omega) fun e => n3 e.1
  · exact ref_ne t2 hm hot (by rw [m2]; omega) fun e => n1 e.1
  · exact ref_ne t2 hm hoy (by rw [m2]; omega) fun e => n2 e.1
  · exact ref_ne t2 hol hot (by rw [m17]; omega) fun e => n4 e.1
  · exact ref_ne t2 hol hoy (by rw [m17]; omega) fun e => n5 e.1
theorem md_form {ad : AD} {h : AH} {np b n : Nat} {ex ho : Nat → Nat → Prop} {bs : List Int32} (hT : TS ad h np ex ho) (hb : b < 4) (hn : n ≤ 60) (g1 : At ad h kMty 0 b (.int (nI n))) (g2 : ∀ j, j < n → At ad h kMby 0 (60 * b + j) (.int (bs.getD j 0))) :
    ∃ m ol ot oy A B s, ad 11 0 = some m ∧ (mdH h m ol A B s = h ∧ (MdD h m ol ot oy A b n bs ∧ s.2.2.2.2.length = 6)) := by
  obtain ⟨m, ol, ot, oy, A, B, s, ⟨h1, -⟩, h2⟩ := md_form2 hT hb hn g1 g2
  exact ⟨m, ol, ot, oy, A, B, s, h1, h2⟩
end
section
/-! ===== the model's law of a borough is what the class keeps ===== -/
noncomputable def R5 (ad : AD) (h : AH) : Prop := ∀ b, b < 4 → ∃ (n : Nat) (bs : List Int32) (nm : Int32), (n ≤ 60 ∧ bs.length = 60) ∧ ((At ad h 0 b 1 (.int (nI n)) ∧ ((∀ p, p < 60 → At ad h 17 b p (.int (bs.getD p 0))) ∧ ∀ w, w < 6 → At ad h 18 b w (.int ((txEnd (txAll bs n nm)).2.2.2.1.getD w 0)))) ∧
  (At ad h kMty 0 b (.int (nI n)) ∧ ∀ j, j < n → At ad h kMby 0 (60 * b + j) (.int (bs.getD j 0))))
theorem r5_cls : ((cdm 0 = 0 ∧ (1 ≤ cdm 17 ∧ 1 ≤ cdm 18)) ∧ (1 ≤ cdm kMty ∧ 1 ≤ cdm kMby)) ∧ (r5K = [0 * 128 + 1, 17 * 128, 18 * 128, kMty * 128, kMby * 128] ∧ (kMty < 1000 ∧ kMby < 1000)) := by decide +kernel
theorem kcode_o {c p : Nat} (h : cdm c = 0) : kcode c p = c * 128 + p := by
  unfold kcode
  rw [h]
  rfl
theorem kcode_r {c p : Nat} (h : 1 ≤ cdm c) : kcode c p = c * 128 := by
  unfold kcode
  have e : Nat.beq (cdm c) 0 = false := by
    cases e : Nat.beq (cdm c) 0
    · rfl
    · have := beqt e
      omega
  rw [e]
  rfl
theorem kdis_ok {l k : List Nat} (h : k_dis l k = true) : ∀ a, a ∈ l → a ∉ k := fun a ha hk => by
  have h1 := List.all_eq_true.mp h a ha
  rw [nmem_in hk] at h1
  cases h1
section
variable {B : BS} {I I' : IN} {n m : Nat} {G G' : SG} {h h' : AH} {σ : Nat → Nat} {Q : Option Value → AH → Prop} {K : List Nat} {u q c i p : Nat} {v : Value}
theorem at_sc (ha : At B.1.1 B.1.2 c i p v) (hc : c < 1000) (hk : kcode c p ∉ K) (hS : Sc B.1 I K u q h) : At I.2.2 h c i p v := by
  obtain ⟨a, k, vs, a1, a2, a3⟩ := ha
  have h1 := hS.2.1 c i a p hc a1 hk
  have h2 := hS.2.2.1 c i a hc a1
  unfold sl at h1
  rw [a2] at h1
  dsimp only at h1
  rw [a3] at h1
  split at h1
  · rename_i o ho
    exact ⟨a, o.1, o.2, h2, ho, h1⟩
  · cases h1
/-- as long as nothing of it is written -/
theorem r5_sc (h5 : R5 B.1.1 B.1.2) (hk : k_dis r5K K = true) (hS : Sc B.1 I K u q h) : R5 I.2.2 h := by
  obtain ⟨⟨⟨c1, c2, c3⟩, c4, c5⟩, c6, c7, c8⟩ := r5_cls
  have hd := kdis_ok hk
  rw [c6] at hd
  intro b hb
  obtain ⟨n, bs, nm, h1, ⟨h2, h3, h4⟩, h6, h7⟩ := h5 b hb
  refine ⟨n, bs, nm, h1, ⟨?_, fun p hp => ?_, fun w hw => ?_⟩, ?_, fun j hj => ?_⟩
  · exact at_sc h2 (by omega) (by rw [kcode_o c1]; exact hd _ (by simp)) hS
  · exact at_sc (h3 p hp) (by omega) (by rw [kcode_r c2]; exact hd _ (by simp)) hS
  · exact at_sc (h4 w hw) (by omega) (by rw [kcode_r c3]; exact hd _ (by simp)) hS
  · exact at_sc h6 c7 (by rw [kcode_r c4]; exact hd _ (by simp)) hS
  · exact at_sc (h7 j hj) c8 (by rw [kcode_r c5]; exact hd _ (by simp)) hS
theorem hp_mem {as : List SV} : ∀ {l : List (SV × SG)} {o : List (Option SV × SG)}, hp_law as l = some o → ∀ p, p ∈ l → ∃ C es, cn_find nC mLawOf (a0_of p.2 as) (cns mLawOf) = some C ∧ (y_use C as p.2 = some es ∧ ∀ q, q ∈ es → (some p.1, q.2) ∈ o) := by
  intro l
  induction l with
  | nil => intro o _ p hp; cases hp
  | cons x r ih =>
    intro o ho p hp
    rw [hp_law] at ho
    split at ho
    · cases ho
    · rename_i C hC
      split at ho
      · cases ho
      · rename_i es hes
        split at ho
        · cases ho
        · rename_i o' ho'
          cases ho
          rcases List.mem_cons.mp hp with rfl | hp
          · exact ⟨C, es, hC, hes, fun q hq => List.mem_append_left _ (List.mem_map.mpr ⟨q, hq, rfl⟩)⟩
          · obtain ⟨C', es', h1, h2, h3⟩ := ih ho' p hp
            exact ⟨C', es', h1, h2, fun q hq => List.mem_append_right _ (h3 q hq)⟩
theorem r5nI {x : Int32} {j : Nat} (h : i2n x = 2147483648 + j) (hj : j < 2147483648) : x = nI j := i2n_inj (by rw [h, nI_ok hj]; omega)
theorem hp_a_ok (h5 : R5 B.1.1 B.1.2) (hcn : ∀ M C, C ∈ cns M → C.1 < nC → CnOK σ C) (hB : ∀ a i, ¬ B.2 a i) (hσ : ∀ i, i < 6 → B.1.1 (stc i) 0 = some (σ i)) {M : Nat} {as : List SV} {As : List Value} {G : SG} {es : List (Option SV × SG)} {I : IN} {h : AH} {Q : Option Value → AH → Prop} (hR : RM B I G h) (hAs : LM I (g_h G).length (g_n G) as As) (hs : hp_a M as G = some (some es)) (hE : Ends B I G es Q) : Rt σ M (codeOf M) (am_args 0 As) [] h Q := by
  unfold hp_a at hs
  replace hs := bif_some hs
  obtain ⟨e0, hs⟩ := hs
  have e0 := beqt e0
  subst e0
  split at hs
  · rename_i m b w
    replace hs := bif_some hs
    obtain ⟨g, hs⟩ := hs
    obtain ⟨g1, g⟩ := and2 g
    obtain ⟨g2, g⟩ := and2 g
    obtain ⟨g2, g3⟩ := and2 g2
    obtain ⟨g4, g6⟩ := and2 g
    obtain ⟨g4, g5⟩ := and2 g4
    have g1 := veq_ok g1
    subst g1
    obtain ⟨Vm, R1, rfl, l1, q1⟩ := lm_cons hAs
    obtain ⟨Vb, R2, rfl, l2, q2⟩ := lm_cons q1
    obtain ⟨Vw, R3, rfl, l3, q3⟩ := lm_cons q2
    have q4 := lm_nil q3
    subst q4
    obtain ⟨xb, rfl, hb⟩ := sv_int l2 g2
    obtain ⟨xw, rfl, hw⟩ := sv_int l3 g3
    obtain ⟨b1, b2⟩ := fit_ok hR.1 hb g4
    obtain ⟨w1, w2⟩ := fit_ok hR.1 hw g5
    obtain ⟨bb, ebb⟩ : ∃ bb, i2n xb = 2147483648 + bb := ⟨i2n xb - 2147483648, by omega⟩
    obtain ⟨ww, eww⟩ : ∃ ww, i2n xw = 2147483648 + ww := ⟨i2n xw - 2147483648, by omega⟩
    have lb : bb < 4 := by omega
    have lw : ww < 6 := by omega
    obtain ⟨-, -, o3⟩ := sv_typ l1 rfl
    rcases o3 with ⟨o4, -⟩ | ⟨-, q, o5, rfl⟩
    · have : (2147483648 : Nat) = 2147483647 := o4
      omega
    · replace o5 : I.2.2 11 (2147483648 - 2147483648) = some q := o5
      rw [Nat.sub_self] at o5
      have h5' := r5_sc h5 g6 hR.2.2.2.2.2.2
      obtain ⟨n, bs, nm, ⟨hn, hbs⟩, ⟨-, -, h4⟩, h6, h7⟩ := h5' bb lb
      split at hs
      · cases hs
      · rename_i l hl
        split at hs
        · cases hs
        · rename_i o ho
          have e := Option.some.inj (Option.some.inj hs)
          subst e
          obtain ⟨p, p1, nu', p2, p3, p4⟩ := y_read_ok (I := I) hR (by omega) hb.2.1 hw.2.1 g2 g3 (a := bb) (b := ww) (hb.2.2.symm.trans ebb) (hw.2.2.symm.trans eww) (h4 ww lw) hl
          obtain ⟨C, es', k1, k2, k3⟩ := hp_mem ho p p1
          obtain ⟨k4, k5, k6⟩ := cn_find_ok k1
          have hu := y_use_ok (hcn _ C k4 k6) hB hσ p3 (lm_gr (gr_nh p4) hAs) k2 (Q := fun v h' => ∃ q, q ∈ es' ∧ ∃ I', Gr (nu', I.2) p.2 I' q.2 ∧ RM B I' q.2 h') fun q hq I' v h' a1 a2 a3 => ⟨q, hq, I', a1, a2⟩
          rw [k5] at hu
          obtain ⟨m, ol, ot, oy, A, Bl, s, d1, d2, d3, d4⟩ := md_form hR.2.2.2.1 lb hn h6 h7
          rw [o5] at d1
          cases d1
          have hm := M_lawOf (σ := σ) (nm := nm) (h := h) (B := Bl) (Q := fun v _ => v = some (.int ((txEnd (txAll bs n nm)).2.2.2.1.getD ww 0))) d3 lb lw d4 fun _ _ => rfl
          rw [d2] at hm
          have exb := r5nI ebb (by omega)
          have exw := r5nI eww (by omega)
          rw [← exb, ← exw] at hm
          refine rt_mono (rt_and hu hm) fun v h' ⟨⟨q', a1, I', a2, a3⟩, a4⟩ => ?_
          subst a4
          exact hE (some p.1, q'.2) (k3 q' a1) I' _ h' (gr_trans (gr_nh p4) a2) a3 (sv_gr a2 p2)
  · cases hs
end
end
section
/-! ===== the heap as the class's texts see it ===== -/
noncomputable def St5 (ad : AD) (h : AH) : Prop := ∀ i, i < 5 → ∀ p, p < 6 → At ad h (stc i) 0 p (.int (Int32.ofInt ((Tab i).getD p 0)))
theorem b_cls : ((cdm 0 = 0 ∧ cdk 0 = 0) ∧ ((cd 0).2.2.length = 7 ∧ ((ct_at 0 0 = some (4, 17, 0) ∧ ct_at 0 5 = some (4, 18, 0)) ∧ ct_at 0 6 = some (4, 19, 0)))) ∧ ((((ct_at 0 1).map (fun t => t.1) = some 0 ∧ (ct_at 0 2).map (fun t => t.1) = some 0) ∧ ((ct_at 0 3).map (fun t => t.1) = some 0 ∧ (ct_at 0 4).map (fun t => t.1) = some 0)) ∧ ((arrI 17 60 = true ∧ arrI 18 6 = true) ∧ (arrI 19 6 = true ∧ ((cdk 17 = 20 ∧ cdk 18 = 20) ∧ cdk 19 = 22)))) := by decide +kernel
theorem st_cls : ∀ i, i < 5 → arrI (stc i) 6 = true ∧ (cdk (stc i) = tabK i ∧ tabK i ≠ 31) := by decide +kernel
theorem tab_len : ∀ i, i < 5 → (Tab i).length = 6 := by decide +kernel
section
variable {σ : Nat → Nat} {ad : AD} {h : AH} {np b : Nat} {ex ho : Nat → Nat → Prop}
theorem st_row (hT : TS ad h np ex ho) (hs : St5 ad h) {i q : Nat} (hi : i < 5) (hq : ad (stc i) 0 = some q) : h.1 q = some (tabK i, iv (Tab i)) := by
  obtain ⟨a1, a2, a3⟩ := st_cls i hi
  obtain ⟨l, l1, l2⟩ := row_of hT.1 a1 hq a2 a3
  rw [l1]
  have e : l = (Tab i).map Int32.ofInt := by
    refine List.ext_getElem? fun p => ?_
    by_cases hp : p < 6
    · rw [at_row (hs i hi p hp) hq l1, List.getElem?_map]
      have := tab_len i hi
      rw [List.getElem?_eq_getElem (by omega), List.getD_eq_getElem?_getD, List.getElem?_eq_getElem (by omega)]
      rfl
    · have := tab_len i hi
      rw [List.getElem?_eq_none (by omega), List.getElem?_eq_none (by rw [List.length_map]; omega)]
  rw [e]
  unfold iv
  rw [List.map_map]
  rfl
/-- text b as the class has it -/
noncomputable def TxE (σ : Nat → Nat) (ad : AD) (h : AH) (b o ob ov oc : Nat) (bs : List Int32) (s : TXS) : Prop := (ad 0 b = some o ∧ (ad 17 b = some ob ∧ (ad 18 b = some ov ∧ ad 19 b = some oc))) ∧ (txH h o ob ov oc s = h ∧ (TxD h o ob ov oc bs ∧ (TxS σ h o ov oc ∧ ((∀ i, i < 5 → σ i ≠ ob) ∧ (s.2.2.2.2.1.length = 6 ∧ s.2.2.2.2.2.length = 6)))))
theorem bl_form (hσ : ∀ k, k < 6 → ad (stc k) 0 = some (σ k)) (hT : TS ad h np ex ho) (hs : St5 ad h) (hb : ad 0 b ≠ none) : ∃ o ob ov oc bs s, TxE σ ad h b o ob ov oc bs s := by
  obtain ⟨⟨⟨m1, m2⟩, m3, ⟨m4, m5⟩, m6⟩, ⟨⟨m8, m9⟩, m10, m11⟩, ⟨m12, m13⟩, m14, ⟨m15, m16⟩, m17⟩ := b_cls
  have hT0 := hT
  obtain ⟨t1, t2, t3, t4, t5, t6⟩ := hT0
  obtain ⟨o, hm⟩ : ∃ o, ad 0 b = some o := by
    cases e : ad 0 b
    · exact absurd e hb
    · exact ⟨_, rfl⟩
  obtain ⟨-, k, vs, y1, y2, y3, y4⟩ := t1 0 b o (by omega) hm
  have ek : k = 0 := by
    rcases y2 with e | ⟨e, -⟩
    · rw [e, m2]
    · rw [m2] at e; cases e
  subst ek
  have hlen := y3.1 m1
  rw [m3] at hlen
  have fld : ∀ p, p < 7 → ∃ v ty, vs[p]? = some v ∧ (ct_at 0 p = some ty ∧ TV ad ty b p v) := fun p hp => by
    have h1 : p < vs.length := by omega
    obtain ⟨ty, a, b⟩ := y4 p _ (List.getElem?_eq_getElem h1)
    exact ⟨_, ty, List.getElem?_eq_getElem h1, a, b⟩
  have fi : ∀ p, p < 7 → (ct_at 0 p).map (fun t => t.1) = some 0 → ∃ x, vs[p]? = some (.int x) := fun p hp h1 => by
    obtain ⟨v, ty, a, b, c⟩ := fld p hp
    rw [b] at h1
    obtain ⟨x, e⟩ := tv_int c (Option.some.inj h1)
    exact ⟨x, by rw [a, e]⟩
  have fr : ∀ p c, p < 7 → ct_at 0 p = some (4, c, 0) → ∃ q, vs[p]? = some (.ref q) ∧ ad c b = some q := fun p c hp h1 => by
    obtain ⟨v, ty, a, b, d⟩ := fld p hp
    rw [h1] at b
    cases b
    obtain ⟨q, e1, e2⟩ := tv_own d rfl
    exact ⟨q, by rw [a, e1], e2⟩
  obtain ⟨x1, f1⟩ := fi 1 (by omega) m8
  obtain ⟨x2, f2⟩ := fi 2 (by omega) m9
  obtain ⟨x3, f3⟩ := fi 3 (by omega) m10
  obtain ⟨x4, f4⟩ := fi 4 (by omega) m11
  obtain ⟨ob, f0, hob⟩ := fr 0 _ (by omega) m4
  obtain ⟨ov, f5, hov⟩ := fr 5 _ (by omega) m5
  obtain ⟨oc, f6, hoc⟩ := fr 6 _ (by omega) m6
  obtain ⟨bs, r1, r2⟩ := row_of t1 m12 hob m15 (by omega)
  obtain ⟨vl, r3, r4⟩ := row_of t1 m13 hov m16 (by omega)
  obtain ⟨cm, r5, r6⟩ := row_of t1 m14 hoc m17 (by omega)
  have hvs : vs = txF ob ov oc (x1, x2, x3, x4, vl, cm) := by
    have e : vs.drop 7 = [] := List.drop_eq_nil_of_le (by omega)
    have : vs = vs.drop 0 := rfl
    rw [this, pull f0, pull f1, pull f2, pull f3, pull f4, pull f5, pull f6, e]
    rfl
  have nst : ∀ {i c q : Nat}, i < 5 → ad c b = some q → cdk c < 30 → σ i ≠ q := fun {i c q} hi hq hk e => by
    refine ref_ne t2 hq (hσ i (by omega)) hk (fun ⟨e1, e2⟩ => ?_) e.symm
    obtain ⟨-, a2, -⟩ := st_cls i hi
    rw [← e1] at a2
    have : tabK i < 30 := by omega
    have h30 : ∀ i, i < 5 → 30 ≤ tabK i := by decide +kernel
    have := h30 i hi
    omega
  refine ⟨o, ob, ov, oc, bs, (x1, x2, x3, x4, vl, cm), ⟨hm, hob, hov, hoc⟩, ?_, ⟨⟨?_, ?_, ?_⟩, ⟨?_, ?_, ?_⟩, r1, r2⟩, fun i hi => ⟨st_row hT hs hi (hσ i (by omega)), ?_, ?_, ?_⟩, fun i hi => ?_, r4, r6⟩
  · unfold txH
    refine Prod.ext (funext fun a => ?_) rfl
    dsimp only
    by_cases e : a = o
    · rw [if_pos e, e, y1, hvs]
    · rw [if_neg e]
      by_cases e2 : a = ov
      · rw [if_pos e2, e2, r3]
      · rw [if_neg e2]
        by_cases e3 : a = oc
        · rw [if_pos e3, e3, r5]
        · rw [if_neg e3]
  · exact ref_ne t2 hm hob (by rw [m2]; omega) (fun e => by omega)
  · exact ref_ne t2 hm hov (by rw [m2]; omega) (fun e => by omega)
  · exact ref_ne t2 hm hoc (by rw [m2]; omega) (fun e => by omega)
  · exact ref_ne t2 hov hob (by rw [m16]; omega) (fun e => by omega)
  · exact ref_ne t2 hov hoc (by rw [m16]; omega) (fun e => by omega)
  · exact ref_ne t2 hoc hob (by rw [m17]; omega) (fun e => by omega)
  · exact nst hi hm (by rw [m2]; omega)
  · exact nst hi hov (by rw [m16]; omega)
  · exact nst hi hoc (by rw [m17]; omega)
  · exact nst hi hob (by rw [m15]; omega)
end
end
