/-! ===== fields ===== -/
section
variable {B : BS} {I I' : IN} {n m : Nat} {G G' : SG} {h h' : AH} {os : List SOUT} {lv lv' : SLV} {st st' r : List SV} {L L' : LV} {S S' R : List Value} {c : Int} {a k kd i f : Nat}
theorem c_vs {l : List (SV × SG)} {V : Value} (hrd : RdOK B I G h l V) (hs : some (o_vs lv r l) = some os) (hK : KN lv) (hL : LVM I (g_h G).length (g_n G) lv L) (hS : LM I (g_h G).length (g_n G) r R) : Cc B I G h os (nx L (V :: R) h) := by
  obtain ⟨q, q1, nu', q2, q3, q4⟩ := hrd
  rw [← Option.some.inj hs]
  have hg := gr_nh q4
  exact ⟨.inl (none, lv, q.1 :: r, q.2), List.mem_map.mpr ⟨q, q1, rfl⟩, (nu', I.2), .inl (none, L, V :: R, h), rfl, rfl, hg, q3, hK, lvm_gr hg hL, q2, lm_gr hg hS⟩
theorem rd_at0 {c a b q : Nat} {i j : SV} {l : List (SV × SG)} (hR : RM B I G h) (hc : c < 1000) (hj : isI j = true) (hi' : sval I.1 i = 2147483648 + a) (hj' : sval I.1 j = 2147483648 + b) (hq : I.2.2 c a = some q) (hm : cdm c = 0) (hs : y_read G c i j = some l) : ∃ k vs V, h.1 q = some (k, vs) ∧ (KOK c k ∧ vs[b]? = some V) := by
  obtain ⟨-, k, vs, h1, h2, h3, -⟩ := hR.2.2.2.1.1 c a q hc hq
  unfold y_read at hs
  split at hs
  · rename_i v hv
    obtain ⟨-, -, -, c4⟩ := hR.2.2.2.2.2.1 _ (c_find_ok hv)
    rcases c4 with ⟨-, i', j', V, d2, d3, ⟨q', k', vs', d4, d5, d6⟩, -⟩ | ⟨d1, -⟩ | ⟨d1, -⟩ | ⟨d1, -⟩
    · dsimp only at d2 d3 d4
      have e1 : i' = a := by omega
      have e2 : j' = b := by omega
      subst e1; subst e2
      rw [hq] at d4
      cases d4
      rw [h1] at d5
      cases d5
      exact ⟨_, _, V, h1, h2, d6⟩
    · exact absurd d1 (isI_8 hj).1
    · exact absurd d1 (isI_8 hj).2
    · exact absurd d1 (isI_10 hj)
  · split at hs
    · cases hs
    · rename_i ty hty
      have ht := yty_at hty hj'
      unfold ct_at at ht
      rw [hm, Nat.beq_refl, cond_true] at ht
      have hb := (List.getElem?_eq_some_iff.mp ht).1
      have hl := h3.1 hm
      exact ⟨k, vs, vs[b], h1, h2, List.getElem?_eq_getElem (by omega)⟩
theorem Y_get_ok (hR : RM B I G h) (hK : KN lv) (hL : LVM I (g_h G).length (g_n G) lv L) (hS : LM I (g_h G).length (g_n G) st S) (hs : Y_get f lv st G = some os) : Cc B I G h os (s_get f L S h) := by
  unfold Y_get at hs
  split at hs
  · rename_i x r
    obtain ⟨V, R2, rfl, g1, g2⟩ := lm_cons hS
    split at hs
    · cases hs
    · rename_i w hw
      obtain ⟨n1, n2⟩ := nn_ok hR g1 hw
      rcases n2 with ⟨n3, n4, n5, i, q, n6, n7, rfl⟩ | ⟨n3, n4, n5, rfl, n6⟩
      · rw [n3, cond_true] at hs
        replace hs := bif_some hs
        obtain ⟨f1, hs⟩ := hs
        obtain ⟨f1, f2⟩ := and2 f1
        split at hs
        · rename_i l hl
          have hj' : sval I.1 (sk (fpos f + 2147483648)) = 2147483648 + fpos f := by rw [sk_val, Nat.add_comm]
          obtain ⟨k, vs, V, h1, h2, h3⟩ := rd_at0 hR n5 rfl n6 hj' n7 (beqt f2) hl
          have hk : k = cdk w.2.1 := by
            rcases h2 with h2 | ⟨h2, -⟩
            · exact h2
            · have := fks_lt f1; omega
          unfold s_get am_get
          dsimp only
          rw [h1]
          dsimp only
          rw [hk, if_pos f1, h3]
          exact c_vs (y_read_ok hR n5 n4 sk_okn (idx_I w) rfl n6 hj' ⟨q, k, vs, n7, h1, h3⟩ hl) hs hK hL g2
        · cases hs
      · rw [n3, cond_false] at hs
        split at hs
        · rename_i kd l hk
          obtain ⟨-, -, vs, h1, h2⟩ := n6 _ hk
          replace hs := bif_some hs
          obtain ⟨f1, hs⟩ := hs
          split at hs
          · rename_i v hv
            obtain ⟨V, v1, v2⟩ := lm_get (l := l) h2 hv
            unfold s_get am_get
            dsimp only
            rw [h1]
            dsimp only
            rw [if_pos f1, v1]
            exact c_nx hs (pn_id hR hK hL ⟨v2, g2⟩)
          · cases hs
        · cases hs
  · cases hs
theorem fitc_ok {cc : Nat} {v : SV} {V : Value} (hR : RM B I G h) (hv : SVm I (g_h G).length (g_n G) v V) (hf : y_fitc cc G v = true) : am_fit cc V = true := by
  unfold y_fitc at hf
  cases hi : isI v
  · rw [hi, cond_false] at hf
    obtain ⟨f1, f2⟩ := and2 hf
    rw [beqt f2]
    rcases sv_ref hv f1 with rfl | ⟨q, rfl⟩ <;> rfl
  · rw [hi, cond_true] at hf
    obtain ⟨x, rfl, hx⟩ := sv_int hv hi
    rcases or2 hf with f1 | f1
    · rw [beqt f1]; rfl
    · obtain ⟨f1, f2⟩ := and2 f1
      rw [beqt f1]
      obtain ⟨b1, b2⟩ := fit_ok hR.1 hx f2
      show (false || (true && (decide (x = 0) || decide (x = 1)))) = true
      rcases i_01 b1 b2 with e | e
      · rw [decide_eq_true e]; rfl
      · rw [decide_eq_true e, Bool.or_true]; rfl
theorem al_x_ok {t : Nat} {e e2 : SV} : ∀ {X : List (Nat × SV)}, al_x G t e X = some e2 → isI e2 = true ∧ ∃ t, (t, e2) ∈ X := by
  intro X
  induction X with
  | nil => intro h; cases h
  | cons q r ih =>
    intro h
    unfold al_x at h
    cases hb : (Nat.beq q.1 t && isI q.2) && !(veq q.2 e || (y_sdiff G e q.2 || (y_le G e q.2 0 2 && y_le G q.2 e 0 2)))
    · rw [hb, cond_false] at h
      obtain ⟨h1, t', h2⟩ := ih h
      exact ⟨h1, t', List.mem_cons_of_mem _ h2⟩
    · rw [hb, cond_true] at h
      have e := Option.some.inj h
      subst e
      exact ⟨(and2 (and2 hb).1).2, q.1, List.mem_cons_self⟩
theorem alias_ok {c : Nat} {i j e2 : SV} : ∀ {ts : List Nat}, y_alias G c i j ts = some e2 → isI e2 = true ∧ ∃ t, (t, e2) ∈ g_x G := by
  intro ts
  induction ts with
  | nil => intro h; cases h
  | cons t r ih =>
    intro h
    rw [y_alias] at h
    split at h
    · exact ih h
    · split at h
      · exact ih h
      · rename_i e2' h2
        have e := Option.some.inj h
        subst e
        exact al_x_ok h2
theorem putl_mem {c : Nat} {i j v : SV} {lv : SLV} {r : List SV} : ∀ {l : List (Bool × SG)} {o : List SOUT}, y_putl lv r c i j v l = some o → ∀ q, q ∈ l → ∃ G2, y_write q.2 c i j v = some G2 ∧ .inl (none, lv, r, G2) ∈ o := by
  intro l
  induction l with
  | nil => intro o _ q hq; cases hq
  | cons x l ih =>
    intro o ho q hq
    rw [y_putl] at ho
    split at ho
    · rename_i G2 o' h1 h2
      cases ho
      rcases List.mem_cons.mp hq with rfl | hq
      · exact ⟨G2, h1, List.mem_cons_self⟩
      · obtain ⟨G3, g1, g2⟩ := ih h2 q hq
        exact ⟨G3, g1, List.mem_cons_of_mem _ g2⟩
    · cases ho
theorem Y_put_ok (hB : ∀ a i, ¬ B.2 a i) (hR : RM B I G h) (hK : KN lv) (hL : LVM I (g_h G).length (g_n G) lv L) (hS : LM I (g_h G).length (g_n G) st S) (hs : Y_put f lv st G = some os) : Cc B I G h os (s_put f L S h) := by
  unfold Y_put at hs
  split at hs
  · rename_i v x r
    obtain ⟨W, R1, rfl, g0, g0'⟩ := lm_cons hS
    obtain ⟨V, R2, rfl, g1, g2⟩ := lm_cons g0'
    split at hs
    · cases hs
    · rename_i w hw
      obtain ⟨n1, n2⟩ := nn_ok hR g1 hw
      replace hs := bif_some hs
      obtain ⟨f0, hs⟩ := hs
      have f0 := fitc_ok hR g0 f0
      rcases n2 with ⟨n3, n4, n5, i, q, n6, n7, rfl⟩ | ⟨n3, n4, n5, rfl, n6⟩
      · rw [n3, cond_true] at hs
        replace hs := bif_some hs
        obtain ⟨f1, hs⟩ := hs
        obtain ⟨f1, f2⟩ := and2 f1
        obtain ⟨f2, f3⟩ := and2 f2
        have hm := beqt f2
        have h12 : cdk w.2.1 ≠ 12 := by
          intro e
          rw [e] at f3
          exact Bool.noConfusion f3
        -- one write, in a state that knows no less
        have one : ∀ {G' G2 : SG}, NK I.1 G I.1 G' → y_write G' w.2.1 (y_idx w) (sk (fpos f + 2147483648)) v = some G2 → ∃ I' x, s_put f L (W :: .ref q :: R2) h = some x ∧ SOK B I G h I' (.inl (none, lv, r, G2)) x := by
          intro G' G2 kk hG2
          have hR' := rm_nk' hR kk
          have lenH : (g_h G').length = (g_h G).length := by rw [kk.2.2.2.1]
          have hj' : sval I.1 (sk (fpos f + 2147483648)) = 2147483648 + fpos f := by rw [sk_val, Nat.add_comm]
          obtain ⟨-, k, vs, h1, h2, h3, -⟩ := hR.2.2.2.1.1 _ i q n5 n7
          have hk : k = cdk w.2.1 := by
            rcases h2 with h2 | ⟨h2, -⟩
            · exact h2
            · have := fks_lt f1; omega
          have hb : fpos f < vs.length := by
            have h0 := hG2
            unfold y_write at h0
            replace h0 := (bif_some h0).2
            split at h0
            · cases h0
            · rename_i ty hty
              have ht := yty_at hty hj'
              unfold ct_at at ht
              rw [hm, Nat.beq_refl, cond_true] at ht
              have hb := (List.getElem?_eq_some_iff.mp ht).1
              have hl := h3.1 hm
              omega
          have g0' : SVm I (g_h G').length (g_n G') v W := by rw [lenH]; exact sv_up g0 (Nat.le_refl _) kk.2.2.1 (fun _ _ => rfl) (fun _ _ => rfl) (fun _ _ _ _ e => e)
          obtain ⟨I', w1, w2, -⟩ := y_write_ok hB hR' n5 h12 (okn_nk n4 kk) sk_okn (idx_I w) rfl n6 hj' n7 h1 hb g0' hG2
          have gg : Gr I G I' G2 := gr_trans (gr_nk (I := I) kk) w2
          refine ⟨I', .inl (none, L, R2, am_set h q (k, vs.set (fpos f) W)), ?_, rfl, gg, ?_, hK, lvm_gr gg hL, lm_gr gg g2⟩
          · unfold s_put am_get
            dsimp only
            rw [h1]
            dsimp only
            rw [hk, f1, decide_eq_true hb, f0, if_pos (show (true && (true && true)) = true from rfl)]
            rfl
          · exact w1
        split at hs
        · rename_i e2 he2
          obtain ⟨ie2, t, hmem⟩ := alias_ok he2
          have oe2 : okn (g_n G) e2 := hR.2.2.2.2.1 _ hmem
          obtain ⟨b, b1, -, b3⟩ := y_eq_ok (x := e2) (y := y_idx w) true false hR.1 oe2 n4
          obtain ⟨G2, w1, w2⟩ := putl_mem hs b b1
          obtain ⟨I', x, x1, x2⟩ := one b3 w1
          exact ⟨_, w2, I', x, x1, x2⟩
        · split at hs
          · rename_i G2 hG2
            obtain ⟨I', x, x1, x2⟩ := one (nk_refl hR.1) hG2
            have e := Option.some.inj hs
            exact ⟨_, by rw [← e]; exact List.mem_cons_self, I', x, x1, x2⟩
          · cases hs
      · rw [n3, cond_false] at hs
        split at hs
        · rename_i kd l hk
          obtain ⟨h30, hnc, vs, h1, h2⟩ := n6 _ hk
          replace hs := bif_some hs
          obtain ⟨f1, hs⟩ := hs
          obtain ⟨f1, f2⟩ := and2 f1
          have f2 := blet f2
          have hl : LM I (g_h G).length (g_n G) l vs := h2
          have hb : fpos f < vs.length := by rw [lm_len hl]; omega
          unfold s_put am_get
          dsimp only
          rw [h1]
          dsimp only
          rw [f1, decide_eq_true hb, f0, if_pos (show (true && (true && true)) = true from rfl)]
          have hR2 := rm_set (o' := .inr (l.set (fpos f) v)) (vs' := vs.set (fpos f) W) hR hk n5 h30 hnc (lm_set hl g0)
          have hg : Gr I G I (upH G ((g_h G).set w.2.1 (kd, .inr (l.set (fpos f) v)))) := ⟨fun _ _ => rfl, Nat.le_refl _, fun _ _ => rfl, Nat.le_of_eq (List.length_set).symm, fun _ _ _ _ e => e⟩
          exact c_nx hs ⟨hg, hR2, hK, lvm_gr hg hL, lm_gr hg g2⟩
        · cases hs
  · cases hs
end
