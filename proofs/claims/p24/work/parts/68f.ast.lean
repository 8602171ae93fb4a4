/-! ===== rows: writes ===== -/
theorem nmin_l (a b : Nat) : nmin a b ≤ a := by
  unfold nmin
  cases h : Nat.ble a b
  · rw [cond_false]
    apply Classical.byContradiction
    intro hh
    rw [Nat.ble_eq_true_of_le (by omega)] at h
    exact Bool.noConfusion h
  · exact Nat.le_refl _
theorem nmin_r (a b : Nat) : nmin a b ≤ b := by
  unfold nmin
  cases h : Nat.ble a b
  · exact Nat.le_refl _
  · exact blet h
theorem nmax_l (a b : Nat) : a ≤ nmax a b := by
  unfold nmax
  cases h : Nat.ble a b
  · exact Nat.le_refl _
  · exact blet h
theorem nmax_r (a b : Nat) : b ≤ nmax a b := by
  unfold nmax
  cases h : Nat.ble a b
  · rw [cond_false]
    apply Classical.byContradiction
    intro hh
    rw [Nat.ble_eq_true_of_le (by omega)] at h
    exact Bool.noConfusion h
  · exact Nat.le_refl _
section
variable {B : BS} {I I' : IN} {n m : Nat} {G G' : SG} {h h' : AH} {os : List SOUT} {lv lv' : SLV} {st st' r : List SV} {L L' : LV} {S S' R : List Value} {c : Int} {a k kd i f : Nat}
theorem bif_b {c x : Bool} (h : (bif c then x else false) = true) : c = true ∧ x = true := by
  cases c
  · exact Bool.noConfusion h
  · exact ⟨rfl, h⟩
theorem stok_ok {v : SV} {V : Value} (hR : RM B I G h) (hv : SVm I (g_h G).length (g_n G) v V) (hs : y_stok a kd G v = true) : am_st a kd V h = true ∧ (20 ≤ kd ∧ kd ≤ 26) := by
  unfold y_stok at hs
  cases a0 : Nat.beq a 0
  · rw [a0, cond_false] at hs
    cases a1 : Nat.beq a 1
    · rw [a1, cond_false] at hs
      cases a2 : Nat.beq a 2
      · rw [a2, cond_false] at hs
        replace hs := bif_b hs
        obtain ⟨a4, hs⟩ := hs
        have := beqt a4; subst this
        cases v4 : Nat.beq v.1 4
        · rw [v4, cond_false] at hs
          replace hs := bif_b hs
          obtain ⟨v5, hs⟩ := hs
          obtain ⟨-, rfl⟩ := sv_raw hv (beqt v5)
          split at hs
          · rename_i kv o ho
            obtain ⟨h1, h2⟩ := and2 hs
            have h1 := blet h1
            have hh : ∃ vs, h.1 (I.2.1 v.2.1) = some (kv, vs) := by
              rcases hR.2.1 _ _ ho with ⟨e, -⟩ | ⟨-, -, vs, e, -⟩
              · dsimp only at e; omega
              · exact ⟨vs, e⟩
            obtain ⟨vs, hh⟩ := hh
            have e : am_st 4 kd (.ref (I.2.1 v.2.1)) h = (match am_get h (I.2.1 v.2.1) with
              | some (kv, _) => decide (kv < 13) && (kd == 24 || ((kd == 25 && kv == 0) || (kd == 26 && kv == 9)))
              | none => false) := rfl
            rw [e]
            unfold am_get
            rw [hh]
            dsimp only
            rw [decide_eq_true (show kv < 13 by omega), nbeq, nbeq, nbeq, nbeq, nbeq]
            refine ⟨h2, ?_⟩
            rcases or2 h2 with h3 | h3
            · have := beqt h3; omega
            · rcases or2 h3 with h3 | h3
              · have := beqt (and2 h3).1; omega
              · have := beqt (and2 h3).1; omega
          · exact Bool.noConfusion hs
        · rw [v4, cond_true] at hs
          have := sv_null hv (beqt v4); subst this
          have e : am_st 4 kd .null h = (kd == 24 || (kd == 25 || kd == 26)) := rfl
          rw [e, nbeq, nbeq, nbeq]
          refine ⟨hs, ?_⟩
          rcases or2 hs with h3 | h3
          · have := beqt h3; omega
          · rcases or2 h3 with h3 | h3
            · have := beqt h3; omega
            · have := beqt h3; omega
      · rw [a2, cond_true] at hs
        have := beqt a2; subst this
        obtain ⟨h1, h2⟩ := and2 hs
        obtain ⟨h2, h3⟩ := and2 h2
        obtain ⟨x, rfl, hx⟩ := sv_int hv h1
        obtain ⟨b1, b2⟩ := fit_ok hR.1 hx h3
        have e : am_st 2 kd (.int x) h = (kd == 22 && (decide (x = 0) || decide (x = 1))) := rfl
        rw [e, nbeq, h2]
        have := beqt h2
        refine ⟨?_, by omega⟩
        rcases i_01 b1 b2 with e | e
        · rw [decide_eq_true e]; rfl
        · rw [decide_eq_true e, Bool.or_true]; rfl
    · rw [a1, cond_true] at hs
      have := beqt a1; subst this
      obtain ⟨h1, h2⟩ := and2 hs
      obtain ⟨x, rfl, hx⟩ := sv_long hv h1
      have e : am_st 1 kd (.long x) h = (kd == 21) := rfl
      rw [e, nbeq, h2]
      have := beqt h2
      exact ⟨rfl, by omega⟩
  · rw [a0, cond_true] at hs
    have := beqt a0; subst this
    obtain ⟨h1, h2⟩ := and2 hs
    obtain ⟨x, rfl, hx⟩ := sv_int hv h1
    have e : am_st 0 kd (.int x) h = (kd == 20) := rfl
    rw [e, nbeq, h2]
    have := beqt h2
    exact ⟨rfl, by omega⟩
theorem sv_nh' {nu' : Nat → Nat} {s : SV} {v : Value} (hs : SVm I (g_h G).length (g_n G) s v) (k : NH I G nu' G') : SVm (nu', I.2) (g_h G').length (g_n G') s v := sv_nh hs k
theorem join_ok {t : TY} {v : SV} {V W : Value} (hR : RM B I G h) (hv : SVm I (g_h G).length (g_n G) v V) (hk : ((Nat.beq t.1 0 && isI v) || (Nat.beq t.1 1 && isL v)) = true) : TU (ty_join G t v) V ∧ (TU t W → TU (ty_join G t v) W) := by
  unfold ty_join
  rcases or2 hk with h1 | h1
  · obtain ⟨h1, h2⟩ := and2 h1
    obtain ⟨x, rfl, hx⟩ := sv_int hv h2
    have b := itv_ok hR.1.1 v
    rw [← hx.2.2] at b
    rw [h1, cond_true]
    have h1 := beqt h1
    have m1 := nmin_l t.2.1 (itv G v).1
    have m2 := nmin_r t.2.1 (itv G v).1
    have m3 := nmax_l t.2.2 (itv G v).2
    have m4 := nmax_r t.2.2 (itv G v).2
    refine ⟨Or.inl ⟨rfl, x, rfl, ?_, ?_⟩, fun hW => ?_⟩
    · show nmin _ _ ≤ _; omega
    · show _ ≤ nmax _ _; omega
    · rcases hW with ⟨-, y, rfl, y1, y2⟩ | ⟨e, -⟩
      · refine Or.inl ⟨rfl, y, rfl, ?_, ?_⟩
        · show nmin _ _ ≤ _; omega
        · show _ ≤ nmax _ _; omega
      · omega
  · obtain ⟨h1, h2⟩ := and2 h1
    obtain ⟨x, rfl, hx⟩ := sv_long hv h2
    have h1 := beqt h1
    rw [h1]
    exact ⟨Or.inr ⟨h1, x, rfl⟩, fun hW => hW⟩
theorem Y_ast_ok (hB : ∀ a i, ¬ B.2 a i) (hR : RM B I G h) (hK : KN lv) (hL : LVM I (g_h G).length (g_n G) lv L) (hS : LM I (g_h G).length (g_n G) st S) (hs : Y_ast a lv st G = some os) : Cc B I G h os (s_ast a L S h) := by
  unfold Y_ast at hs
  split at hs
  · rename_i s i0 x r
    obtain ⟨U, R0, rfl, gu, gu'⟩ := lm_cons hS
    obtain ⟨W, R1, rfl, g0, g0'⟩ := lm_cons gu'
    obtain ⟨V, R2, rfl, g1, g2⟩ := lm_cons g0'
    replace hs := bif_some hs
    obtain ⟨f0, hs⟩ := hs
    obtain ⟨j, rfl, hj⟩ := sv_int g0 f0
    split at hs
    · cases hs
    · rename_i w hw
      obtain ⟨n1, n2⟩ := nn_ok hR g1 hw
      split at hs
      · rename_i kd p hk hv
        obtain ⟨v, G'⟩ := p
        obtain ⟨q, k, vs, rfl, e1, e2⟩ := kd_ok hR n2 hk
        obtain ⟨nu', q', k', vs', h1, h2, h3, h4, h5, h6, h7, h8⟩ := len_ok (v := v) (G' := G') hR n2 hv
        cases h1
        rw [e1] at h2
        cases h2
        dsimp only at hs
        have hg := gr_nh h8
        have hi := cn_IV h7.1 (iv_nh hj h8)
        generalize y_cn G' i0 = i at hs hi
        replace hs := bif_some hs
        obtain ⟨f1, hs⟩ := hs
        obtain ⟨f1, f2⟩ := and2 f1
        have b12 : 2147483648 ≤ sval nu' i ∧ sval nu' i + 1 ≤ sval nu' v := in_ok h7.1 hi.2.1 h5 f2
        obtain ⟨b1, b2⟩ := b12
        have hij : i2n j = sval nu' i := hi.2.2
        have gU := sv_nh gu h8
        obtain ⟨s1, s2, s3⟩ := stok_ok h7 gU f1
        have hkk : k = kd := by omega
        subst hkk
        obtain ⟨j1, j2⟩ := j_of (j := j) (by omega)
        have hb : i2n j - 2147483648 < vs.length := by omega
        have hL' := lvm_gr hg hL
        have hS' := lm_gr hg g2
        unfold s_ast
        dsimp only
        rw [show am_get h q = some (k, vs) from e1]
        dsimp only
        rw [s1, decide_eq_true j1, j2, decide_eq_true hb, if_pos (show (true && (true && true)) = true from rfl)]
        refine cc_gr hg ?_
        rcases n2 with ⟨n3, n4, n5, b, q2, n6, n7, n8⟩ | ⟨n3, n4, n5, n8, n6⟩
        · rw [n3, cond_true] at hs
          cases n8
          replace hs := bif_some hs
          obtain ⟨f3, hs⟩ := hs
          split at hs
          · rename_i G2 hG2
            have hiv : sval nu' i = 2147483648 + (i2n j - 2147483648) := by omega
            have hix : sval nu' (y_idx w) = 2147483648 + b := by rw [sval_ag n4 h8.1]; exact n6
            have hkc : cdk w.2.1 = k := by
              unfold y_kd at hk
              rw [n3, cond_true] at hk
              exact Option.some.inj hk
            obtain ⟨I', w1, w2, -⟩ := y_write_ok (I := (nu', I.2)) hB h7 n5 (by omega) (okn_up n4 h8.2.1) hi.2.1 (idx_I w) hi.1 hix hiv n7 e1 hb gU hG2
            exact c_nx hs ⟨w2, w1, hK, lvm_gr w2 hL', lm_gr w2 hS'⟩
          · cases hs
        · rw [n3, cond_false] at hs
          cases n8
          have hH : (g_h G')[w.2.1]? = (g_h G)[w.2.1]? := by rw [h8.2.2.1]
          rw [hH] at hs
          split at hs
          · rename_i kd' u ho
            obtain ⟨h30, hnc, vs2, o1, o2, o3⟩ := n6 _ ho
            rw [e1] at o1
            cases o1
            replace hs := bif_some hs
            obtain ⟨u1, hs⟩ := hs
            have ho' : (g_h G')[w.2.1]? = some (kd', .inl u) := hH.trans ho
            have hlt : w.2.1 < (g_h G').length := by rw [h8.2.2.1]; exact n5
            have hv2 : CMr (nu', I.2) (g_h G').length (g_n G') (.inl (u.1, ty_join G' u.2 s)) (vs.set (i2n j - 2147483648) U) := by
              refine ⟨List.length_set.trans o2, fun Z hZ => ?_⟩
              rcases List.mem_or_eq_of_mem_set hZ with hZ | rfl
              · exact (join_ok (W := Z) h7 gU u1).2 (o3 Z hZ)
              · exact (join_ok (W := Z) h7 gU u1).1
            have hR2 := rm_set h7 ho' hlt h30 hnc hv2
            have hg2 : Gr (nu', I.2) G' (nu', I.2) (upH G' ((g_h G').set w.2.1 (kd', .inl (u.1, ty_join G' u.2 s)))) := ⟨fun _ _ => rfl, Nat.le_refl _, fun _ _ => rfl, Nat.le_of_eq (List.length_set).symm, fun _ _ _ _ e => e⟩
            exact c_nx hs ⟨hg2, hR2, hK, lvm_gr hg2 hL', lm_gr hg2 hS'⟩
          · rename_i kd' l ho
            obtain ⟨h30, hnc, vs2, o1, o2⟩ := n6 _ ho
            rw [e1] at o1
            cases o1
            replace hs := bif_some hs
            obtain ⟨u1, hs⟩ := hs
            have hic : i.2.1 = i2n j := by
              rw [hij]
              unfold sval isN
              rw [beqt u1]
              rfl
            rw [hic] at hs
            have ho' : (g_h G')[w.2.1]? = some (kd', .inr l) := hH.trans ho
            have hlt : w.2.1 < (g_h G').length := by rw [h8.2.2.1]; exact n5
            have hv2 : LM (nu', I.2) (g_h G').length (g_n G') (l.set (i2n j - 2147483648) s) (vs.set (i2n j - 2147483648) U) := lm_set (lm_gr hg (l := l) o2) gU
            have hR2 := rm_set (o' := .inr (l.set (i2n j - 2147483648) s)) h7 ho' hlt h30 hnc hv2
            have hg2 : Gr (nu', I.2) G' (nu', I.2) (upH G' ((g_h G').set w.2.1 (kd', .inr (l.set (i2n j - 2147483648) s)))) := ⟨fun _ _ => rfl, Nat.le_refl _, fun _ _ => rfl, Nat.le_of_eq (List.length_set).symm, fun _ _ _ _ e => e⟩
            exact c_nx hs ⟨hg2, hR2, hK, lvm_gr hg2 hL', lm_gr hg2 hS'⟩
          · cases hs
      · cases hs
  · cases hs
end
