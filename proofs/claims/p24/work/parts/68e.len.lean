/-! ===== rows: lengths, reads ===== -/
theorem ld_31 (a : Nat) : am_ld a 31 = am_ld a 30 := by
  unfold am_ld
  split <;> rfl
section
variable {B : BS} {I I' : IN} {n m : Nat} {G G' : SG} {h h' : AH} {os : List SOUT} {lv lv' : SLV} {st st' r : List SV} {L L' : LV} {S S' R : List Value} {c : Int} {a k kd i f : Nat}
theorem cc_gr {x : Option ACT} (hg : Gr I G I' G') (hc : Cc B I' G' h os x) : Cc B I G h os x := by
  obtain ⟨o, o1, I2, y, o2, o3⟩ := hc
  refine ⟨o, o1, I2, y, o2, ?_⟩
  rcases o with ⟨t, lv2, st2, G2⟩ | ⟨M, as, r2, G2⟩ | ⟨q, G2⟩
  · rcases y with ⟨t', L2, S2, h2⟩ | y
    · exact ⟨o3.1, gr_trans hg o3.2.1, o3.2.2⟩
    · rcases y with y | y <;> exact o3.elim
  · rcases y with ⟨t', L2, S2, h2⟩ | ⟨M', As, R2⟩ | y
    · exact o3.elim
    · exact ⟨o3.1, gr_trans hg o3.2.1, o3.2.2⟩
    · exact o3.elim
  · rcases y with ⟨t', L2, S2, h2⟩ | ⟨M', As, R2⟩ | y
    · exact o3.elim
    · exact o3.elim
    · exact ⟨gr_trans hg o3.1, o3.2⟩
theorem len_ok {w v : SV} {V : Value} (hR : RM B I G h) (hn : (isT w = true ∧ (okn (g_n G) (y_idx w) ∧ (w.2.1 < 1000 ∧ ∃ i q, sval I.1 (y_idx w) = 2147483648 + i ∧ (I.2.2 w.2.1 i = some q ∧ V = .ref q)))) ∨
    (isT w = false ∧ (w.1 = 5 ∧ (w.2.1 < (g_h G).length ∧ (V = .ref (I.2.1 w.2.1) ∧ ∀ o, (g_h G)[w.2.1]? = some o → o.1 < 30 ∧ ((∀ c i, I.2.2 c i ≠ some (I.2.1 w.2.1)) ∧ ∃ vs, h.1 (I.2.1 w.2.1) = some (o.1, vs) ∧ CMr I (g_h G).length (g_n G) o.2 vs)))))) (hs : y_len G w = some (v, G')) :
    ∃ nu' q k vs, V = .ref q ∧ (h.1 q = some (k, vs) ∧ (vs.length < 2147483648 ∧ (isI v = true ∧ (okn (g_n G') v ∧ (sval nu' v = 2147483648 + vs.length ∧ (RM B (nu', I.2) G' h ∧ NH I G nu' G')))))) := by
  unfold y_len at hs
  rcases hn with ⟨h1, h5, h2, i, q, h6, h3, h4⟩ | ⟨h1, -, h2, h3, h4⟩
  · rw [h1, cond_true] at hs
    obtain ⟨-, k, vs, e1, e2, e3, -⟩ := hR.2.2.2.1.1 _ _ _ h2 h3
    cases c0 : Nat.beq (cdm w.2.1) 0
    · rw [c0, cond_false] at hs
      have c0 := beqf c0
      cases c1 : Nat.ble (cdm w.2.1) 999999
      · rw [c1, cond_false] at hs
        have c1 : 999999 < cdm w.2.1 := by
          apply Classical.byContradiction
          intro hh
          rw [Nat.ble_eq_true_of_le (by omega)] at c1
          exact Bool.noConfusion c1
        have hl := e3.2.2 c1
        split at hs
        · rename_i v' hv
          have e := Option.some.inj hs
          injection e with e4 e5
          rw [← e4, ← e5]
          obtain ⟨-, -, -, c4⟩ := hR.2.2.2.2.2.1 _ (c_find_ok hv)
          rcases c4 with ⟨c4, -⟩ | ⟨c4, -⟩ | ⟨-, d2, d3, i', a', k', vs', d4, d5, d6, d7⟩ | ⟨c4, -⟩
          · exact absurd rfl (isI_8 c4).2
          · exact absurd c4 (show ¬ (9 = 8) by omega)
          · dsimp only at d2 d3 d4 d5 d7
            have : i' = i := by omega
            subst this
            rw [h3] at d5
            cases d5
            rw [e1] at d6
            cases d6
            exact ⟨I.1, q, k, vs, h4, e1, by omega, d2, d3, d7, hR, nh_refl I G⟩
          · exact absurd c4 (show ¬ (10 ≤ 9) by omega)
        · have e := Option.some.inj hs
          injection e with e4 e5
          rw [← e4, ← e5]
          have k1 := nk_fresh (lo := 2147483648) (hi := 2147487232) (w := 2147483648 + vs.length) hR.1 (by omega) (by omega)
          have hR1 := rm_nk hR k1
          have ov : okn (g_n (y_fresh G 2147483648 2147487232)) (1, g_n G, 0) := fun _ => Nat.lt_succ_self _
          have sv : sval (nset I.1 (g_n G) (2147483648 + vs.length)) (1, g_n G, 0) = 2147483648 + vs.length := nset_at _ _ _
          have si : sval (nset I.1 (g_n G) (2147483648 + vs.length)) (y_idx w) = 2147483648 + i := by rw [sval_ag h5 k1.2.1]; exact h6
          refine ⟨_, q, k, vs, h4, e1, by omega, rfl, ov, sv, rm_cell hR1 ?_, nh_put (nh_nk k1)⟩
          exact ⟨okn_up h5 k1.2.2.1, (fun hq => Bool.noConfusion hq), h2, Or.inr (Or.inr (Or.inl ⟨rfl, rfl, ov, i, q, k, vs, si, h3, e1, sv⟩))⟩
      · rw [c1, cond_true] at hs
        have e := Option.some.inj hs
        injection e with e4 e5
        rw [← e4, ← e5]
        have hl := e3.2.1 (by omega) (blet c1)
        have c1 := blet c1
        exact ⟨I.1, q, k, vs, h4, e1, by omega, rfl, sk_okn, by rw [sk_val]; omega, hR, nh_refl I G⟩
    · rw [c0, cond_true] at hs
      cases hs
  · rw [h1, cond_false] at hs
    split at hs
    · rename_i o ho
      obtain ⟨e1, -, vs, e2, e3⟩ := h4 o ho
      replace hs := bif_some hs
      obtain ⟨f1, hs⟩ := hs
      have f1 := blet f1
      have e := Option.some.inj hs
      injection e with e4 e5
      rw [← e4, ← e5]
      have hl : vs.length = so_len o.2 := by
        obtain ⟨kd, o⟩ := o
        cases o with
        | inl q => exact e3.1
        | inr l => exact lm_len (l := l) e3
      exact ⟨I.1, _, _, vs, h3, e2, by omega, rfl, sk_okn, by rw [sk_val, hl, Nat.add_comm], hR, nh_refl I G⟩
    · cases hs
theorem in_ok {nu : Nat → Nat} {i n : SV} (hg : GK nu G) (oi : okn (g_n G) i) (on : okn (g_n G) n) (hs : y_in G i n = true) : 2147483648 ≤ sval nu i ∧ sval nu i + 1 ≤ sval nu n := by
  unfold y_in at hs
  obtain ⟨h1, h2⟩ := and2 hs
  have bi := itv_ok hg.1 i
  have bn := itv_ok hg.1 n
  constructor
  · cases c1 : Nat.ble 2147483648 (itv G i).1
    · rw [c1, cond_false] at h1
      have := y_le_ok hg sk_okn oi h1
      rw [sk_val] at this
      omega
    · have := blet c1
      omega
  · cases c1 : Nat.ble ((itv G i).2 + 1) (itv G n).1
    · rw [c1, cond_false] at h2
      exact y_le_ok hg oi on h2
    · have := blet c1
      omega
theorem cn_IV {nu : Nat → Nat} {v : SV} {X : Int32} (hg : GK nu G) (hv : IV nu (g_n G) v X) : IV nu (g_n G) (y_cn G v) X := by
  unfold y_cn
  dsimp only
  have b := itv_ok hg.1 v
  cases c1 : (isI v && Nat.beq (itv G v).1 (itv G v).2)
  · exact hv
  · rw [cond_true]
    have := beqt (and2 c1).2
    exact sk_IV (by have := hv.2.2; omega)
theorem Y_len_ok (hR : RM B I G h) (hK : KN lv) (hL : LVM I (g_h G).length (g_n G) lv L) (hS : LM I (g_h G).length (g_n G) st S) (hs : Y_len lv st G = some os) : Cc B I G h os (s_len L S h) := by
  unfold Y_len at hs
  split at hs
  · rename_i x r
    obtain ⟨V, R2, rfl, g1, g2⟩ := lm_cons hS
    split at hs
    · cases hs
    · rename_i w hw
      obtain ⟨n1, n2⟩ := nn_ok hR g1 hw
      split at hs
      · rename_i kd v hk hv
        obtain ⟨q, k, vs, rfl, e1, e2⟩ := kd_ok hR n2 hk
        obtain ⟨nu', q', k', vs', h1, h2, h3, h4, h5, h6, h7, h8⟩ := len_ok (v := v.1) (G' := v.2) hR n2 hv
        cases h1
        rw [e1] at h2
        cases h2
        replace hs := bif_some hs
        obtain ⟨f1, hs⟩ := hs
        have f1 := blet f1
        unfold s_len am_get
        dsimp only
        rw [e1]
        dsimp only
        rw [if_pos ⟨by omega, h3⟩]
        have hg := gr_nh h8
        refine c_nx hs ⟨hg, h7, hK, lvm_gr hg hL, sv_of_int ⟨h4, h5, ?_⟩, lm_gr hg g2⟩
        rw [nI_ok h3, h6, Nat.add_comm]
      · cases hs
  · cases hs
theorem iv_nh {nu' : Nat → Nat} {v : SV} {X : Int32} (hv : IV I.1 (g_n G) v X) (k : NH I G nu' G') : IV nu' (g_n G') v X := ⟨hv.1, okn_up hv.2.1 k.2.1, by rw [sval_ag hv.2.1 k.1]; exact hv.2.2⟩
theorem mk_name {lo hi : Nat} {X : Int32} (hR : RM B I G h) (h1 : lo ≤ i2n X) (h2 : i2n X ≤ hi) : ∃ nu', NK I.1 G nu' (y_new G lo hi).2 ∧ IV nu' (g_n (y_new G lo hi).2) (y_new G lo hi).1 X := by
  by_cases e : lo = hi
  · rw [y_new_eq e]
    exact ⟨I.1, nk_refl hR.1, sk_IV (by omega)⟩
  · rw [y_new_ne e]
    exact ⟨_, nk_fresh hR.1 h1 h2, rfl, fun _ => Nat.lt_succ_self _, (nset_at _ _ _).symm⟩
theorem mk_long {X : Int64} (hR : RM B I G h) : ∃ nu', NK I.1 G nu' (lnew G).2 ∧ LV' nu' (g_n (lnew G).2) (lnew G).1 X := by
  have := l2n_lt X
  exact ⟨_, nk_fresh (w := l2n X) hR.1 (Nat.zero_le _) (by omega), rfl, fun _ => Nat.lt_succ_self _, (nset_at _ _ _).symm⟩
theorem Y_ald_ok (hR : RM B I G h) (hK : KN lv) (hL : LVM I (g_h G).length (g_n G) lv L) (hS : LM I (g_h G).length (g_n G) st S) (hs : Y_ald a lv st G = some os) : Cc B I G h os (s_ald a L S h) := by
  unfold Y_ald at hs
  split at hs
  · rename_i i0 x r
    obtain ⟨W, R1, rfl, g0, g0'⟩ := lm_cons hS
    obtain ⟨V, R2, rfl, g1, g2⟩ := lm_cons g0'
    replace hs := bif_some hs
    obtain ⟨f0, hs⟩ := hs
    obtain ⟨j, rfl, hj⟩ := sv_int g0 f0
    split at hs
    · cases hs
    · rename_i w hw
      obtain ⟨n1, n2⟩ := nn_ok hR g1 hw
      split at hs
      · rename_i kd p hk hv
        obtain ⟨v, G'⟩ := p
        obtain ⟨q, k, vs, rfl, e1, e2⟩ := kd_ok hR n2 hk
        obtain ⟨nu', q', k', vs', h1, h2, h3, h4, h5, h6, h7, h8⟩ := len_ok (v := v) (G' := G') hR n2 hv
        cases h1
        rw [e1] at h2
        cases h2
        dsimp only at hs
        have hg := gr_nh h8
        have hi := cn_IV h7.1 (iv_nh hj h8)
        generalize y_cn G' i0 = i at hs hi
        replace hs := bif_some hs
        obtain ⟨f1, hs⟩ := hs
        obtain ⟨f1, f2⟩ := and2 f1
        obtain ⟨f1, f3⟩ := and2 f1
        have b12 : 2147483648 ≤ sval nu' i ∧ sval nu' i + 1 ≤ sval nu' v := in_ok h7.1 hi.2.1 h5 f2
        obtain ⟨b1, b2⟩ := b12
        have hij : i2n j = sval nu' i := hi.2.2
        have hld : am_ld a k = true := by
          rcases e2 with e2 | ⟨e2, e3⟩
          · rw [e2]; exact f1
          · rw [e3, ← ld_31, ← e2]; exact f1
        obtain ⟨j1, j2⟩ := j_of (j := j) (by omega)
        have hb : i2n j - 2147483648 < vs.length := by omega
        have hL' := lvm_gr hg hL
        have hS' := lm_gr hg g2
        unfold s_ald am_get
        dsimp only
        rw [e1]
        dsimp only
        rw [hld, decide_eq_true j1, if_pos (show (true && true) = true from rfl), j2, List.getElem?_eq_getElem hb]
        dsimp only
        have hV : vs[i2n j - 2147483648]? = some vs[i2n j - 2147483648] := List.getElem?_eq_getElem hb
        have hmem : vs[i2n j - 2147483648] ∈ vs := List.getElem_mem hb
        generalize vs[i2n j - 2147483648] = V at hV hmem
        refine cc_gr hg ?_
        rcases n2 with ⟨n3, n4, n5, b, q2, n6, n7, n8⟩ | ⟨n3, n4, n5, n8, n6⟩
        · rw [n3, cond_true] at hs
          cases n8
          split at hs
          · rename_i l hl
            have hiv : sval nu' i = 2147483648 + (i2n j - 2147483648) := by omega
            have hix : sval nu' (y_idx w) = 2147483648 + b := by rw [sval_ag n4 h8.1]; exact n6
            exact c_vs (y_read_ok (I := (nu', I.2)) h7 n5 (okn_up n4 h8.2.1) hi.2.1 (idx_I w) hi.1 hix hiv ⟨q, k, vs, n7, e1, hV⟩ hl) hs hK hL' hS'
          · cases hs
        · rw [n3, cond_false] at hs
          cases n8
          have hH : (g_h G')[w.2.1]? = (g_h G)[w.2.1]? := by rw [h8.2.2.1]
          rw [hH] at hs
          split at hs
          · rename_i kd' u ho
            obtain ⟨-, -, vs2, o1, o2, o3⟩ := n6 _ ho
            rw [e1] at o1
            cases o1
            have hu := o3 V hmem
            cases u0 : Nat.beq u.2.1 0
            · rw [u0, cond_false] at hs
              replace hs := bif_some hs
              obtain ⟨u1, hs⟩ := hs
              have u1 := beqt u1
              rcases hu with ⟨u2, -⟩ | ⟨-, X, rfl⟩
              · omega
              · obtain ⟨nu2, k1, k2⟩ := mk_long (X := X) h7
                exact c_nx hs (pn_nk h7 hK hL' hS' k1 (sv_of_long k2))
            · rw [u0, cond_true] at hs
              have u0 := beqt u0
              rcases hu with ⟨-, X, rfl, u2, u3⟩ | ⟨u2, -⟩
              · obtain ⟨nu2, k1, k2⟩ := mk_name (X := X) h7 u2 u3
                exact c_nx hs (pn_nk h7 hK hL' hS' k1 (sv_of_int k2))
              · omega
          · rename_i kd' l ho
            obtain ⟨-, -, vs2, o1, o2⟩ := n6 _ ho
            rw [e1] at o1
            cases o1
            replace hs := bif_some hs
            obtain ⟨u1, hs⟩ := hs
            have hic : i.2.1 = i2n j := by
              rw [hij]
              unfold sval isN
              rw [beqt u1]
              rfl
            rw [hic] at hs
            split at hs
            · rename_i s hsl
              obtain ⟨V2, v1, v2⟩ := lm_get (l := l) o2 hsl
              rw [hV] at v1
              cases v1
              exact c_nx hs (pn_id h7 hK hL' ⟨sv_gr hg v2, hS'⟩)
            · cases hs
          · cases hs
      · cases hs
  · cases hs
end
