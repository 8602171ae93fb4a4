/-! ===== all calls that are answered at once ===== -/
section
variable {B : BS} {I I' : IN} {n m n' m' : Nat} {G G' : SG} {h h' h0 h1 : AH} {M w : Nat} {σ : Nat → Nat} {Q : Option Value → AH → Prop}
theorem prim_ok {as : List SV} {As : List Value} {es : List (Option SV × SG)} (hB : ∀ a i, ¬ B.2 a i) (hσ : ∀ i, i < 6 → B.1.1 (stc i) 0 = some (σ i)) (hR : RM B I G h) (hAs : LM I (g_h G).length (g_n G) as As) (hs : prim M as G = some (some es)) (hE : Ends B I G es Q) : Rt σ M (codeOf M) (am_args 0 As) [] h Q := by
  unfold prim at hs
  split at hs
  · rename_i x as
    obtain ⟨V, As', rfl, l1, l2⟩ := lm_cons hAs
    replace hs := bif_some hs
    obtain ⟨hM, hs⟩ := hs
    replace hs := bif_some hs
    obtain ⟨f1, hs⟩ := hs
    obtain ⟨f1, f2⟩ := and2 f1
    split at hs
    · cases hs
    · rename_i el ident mx hlo
      have hl := lst_of_mem hlo
      dsimp only at hl
      obtain ⟨hk12, hl1000, hel⟩ := ck_l hl
      have hT : isT x = true := by unfold isT; rw [beqt f1]; rfl
      obtain ⟨o1, o2, o3⟩ := sv_typ l1 hT
      have e9 : sval I.1 (y_idx x) = 2147483648 := by
        unfold y_idx
        rw [beqt f1]
        exact beqt f2
      rw [e9] at o3
      rcases o3 with ⟨o4, -⟩ | ⟨-, q, o5, rfl⟩
      · omega
      · rw [Nat.sub_self] at o5
        obtain ⟨mc, ed, sz, N, g1, g2, g3⟩ := hR.2.2.2.1.2.2.2.2.1 _ _ _ _ hl q o5
        have hat : At I.2.2 h x.2.1 0 2 (.int sz) := ⟨q, 12, _, o5, g1, rfl⟩
        replace hs := Option.some.inj hs
        cases mC : Nat.beq M mClear
        · rw [mC, cond_false] at hs
          split at hs
          · cases hs
          · rename_i ls hls
            have hrd := y_read_ok (I := I) hR hl1000 sk_okn sk_okn rfl rfl (a := 0) (b := 2) (by rw [sk_val]) (by rw [sk_val]) hat hls
            cases m2 : Nat.beq M 2
            · rw [m2, cond_false] at hs
              cases m3 : Nat.beq M 3
              · rw [m3, cond_false] at hs
                cases mA : Nat.beq M mAdd
                · rw [mA, cond_false] at hs
                  have mE : M = mEmpty := by
                    rw [m2, m3, mA, mC] at hM
                    exact beqt hM
                  subst mE
                  split at hs
                  · rw [lm_nil l2]
                    have e := Option.some.inj hs
                    subst e
                    obtain ⟨p, p1, nu', p2, p3, p4⟩ := hrd
                    have hsz := sv_int' p2
                    obtain ⟨b, b1, b2, b3⟩ := y_eq_ok (x := p.1) (y := sk 2147483648) true false p3.1 hsz.2.1 sk_okn
                    rw [sk_val] at b2
                    have hmem := pr_emp_mem p p1 b1
                    have hg := gr_trans (gr_nh p4) (gr_nk (I := (nu', I.2)) (nu' := nu') b3)
                    refine L_empty g1 ?_
                    refine hE _ hmem (nu', I.2) _ h hg (rm_nk' (I := (nu', I.2)) p3 b3) ?_
                    have hv : i2n sz = sval nu' p.1 := hsz.2.2
                    dsimp only at b2
                    by_cases h0 : sz = 0
                    · rw [if_pos h0]
                      rw [if_pos (by rw [← hv, h0, c_0])] at b2
                      rw [b2]
                      exact sv_of_int (sk_IV c_1)
                    · rw [if_neg h0]
                      rw [if_neg (fun e => h0 ((i2n_zero sz).mp (by rw [hv]; exact e)))] at b2
                      rw [b2]
                      exact sv_of_int (sk_IV c_0)
                  · cases hs
                · rw [mA, cond_true] at hs
                  have := beqt mA
                  subst this
                  split at hs
                  · rename_i v
                    obtain ⟨U, R, rfl, u1, u2⟩ := lm_cons l2
                    rw [lm_nil u2]
                    exact prim_add hB hl hσ hR o5 g1 u1 hrd hs hE
                  · cases hs
              · rw [m3, cond_true] at hs
                have := beqt m3
                subst this
                split at hs
                · rename_i v
                  obtain ⟨U, R, rfl, u1, u2⟩ := lm_cons l2
                  rw [lm_nil u2]
                  exact prim_get hl hσ hR o5 g1 u1 hrd hs hE
                · cases hs
            · rw [m2, cond_true] at hs
              have := beqt m2
              subst this
              split at hs
              · rw [lm_nil l2]
                have e := Option.some.inj hs
                subst e
                obtain ⟨p, p1, nu', p2, p3, p4⟩ := hrd
                exact L_size g1 (hE _ (List.mem_map.mpr ⟨p, p1, rfl⟩) (nu', I.2) _ h (gr_nh p4) p3 p2)
              · cases hs
        · rw [mC, cond_true] at hs
          have := beqt mC
          subst this
          split at hs
          · rw [lm_nil l2]
            split at hs
            · rename_i G2 hG2
              have e := Option.some.inj hs
              subst e
              exact prim_clear hl hσ hR o5 hG2 hE
            · cases hs
          · cases hs
  · cases hs
theorem cn_find_ok {a0 : Nat} {C : CN} : ∀ {l : List CN}, cn_find w M a0 l = some C → C ∈ l ∧ (C.2.1 = M ∧ C.1 < w) := by
  intro l
  induction l with
  | nil => intro h; cases h
  | cons q r ih =>
    intro h
    rw [cn_find] at h
    cases hb : Nat.beq q.2.1 M && (Nat.beq q.2.2.1 a0 && Nat.ble (q.1 + 1) w)
    · rw [hb, cond_false] at h
      exact ⟨List.mem_cons_of_mem _ (ih h).1, (ih h).2⟩
    · rw [hb, cond_true] at h
      cases h
      obtain ⟨h1, h2⟩ := and2 hb
      exact ⟨List.mem_cons_self, beqt h1, blet (and2 h2).2⟩
/-- calls that are answered by hand, at the law's level -/
noncomputable def HP (σ : Nat → Nat) (B : BS) : Prop := ∀ (M : Nat) (as : List SV) (As : List Value) (G : SG) (es : List (Option SV × SG)) (I : IN) (h : AH) (Q : Option Value → AH → Prop), RM B I G h → LM I (g_h G).length (g_n G) as As → hp M as G = some (some es) → Ends B I G es Q → Rt σ M (codeOf M) (am_args 0 As) [] h Q
theorem hc_ok0 (hcn : ∀ M C, C ∈ cns M → C.1 < w → CnOK σ C) (hB : ∀ a i, ¬ B.2 a i) (hσ : ∀ i, i < 6 → B.1.1 (stc i) 0 = some (σ i)) {as : List SV} {As : List Value} {es : List (Option SV × SG)} (hR : RM B I G h) (hAs : LM I (g_h G).length (g_n G) as As) (hs : y_con0 w M as G = some (some es)) (hE : Ends B I G es Q) : Rt σ M (codeOf M) (am_args 0 As) [] h Q := by
  unfold y_con0 at hs
  split at hs
  · rename_i r hr
    have e := Option.some.inj hs
    subst e
    exact prim_ok hB hσ hR hAs hr hE
  · split at hs
    · cases hs
    · rename_i l _ hl
      split at hs
      · rename_i C hC
        obtain ⟨c1, c2, c3⟩ := cn_find_ok hC
        have e := Option.some.inj hs
        have := y_use_ok (hcn M C c1 c3) hB hσ hR hAs e hE
        rw [c2] at this
        exact this
      · cases hs
theorem hc_ok (hcn : ∀ M C, C ∈ cns M → C.1 < w → CnOK σ C) (hB : ∀ a i, ¬ B.2 a i) (hσ : ∀ i, i < 6 → B.1.1 (stc i) 0 = some (σ i)) (hH : w = nC → HP σ B) : HC σ B w := by
  intro M as As G es I h Q hR hAs hs hE
  unfold y_con at hs
  split at hs
  · rename_i r hr
    have e := Option.some.inj hs
    subst e
    obtain ⟨e1, e2⟩ := bif_some hr
    exact hH (beqt e1) M as As G es I h Q hR hAs e2 hE
  · exact hc_ok0 hcn hB hσ hR hAs hs hE
theorem cn_all_ok (hk : ∀ M C, C ∈ cns M → cn_ok C = true) : ∀ w, w ≤ nC → ∀ M C, C ∈ cns M → C.1 < w → CnOK σ C := by
  intro w
  induction w with
  | zero => intro _ M C _ h; exact absurd h (Nat.not_lt_zero _)
  | succ w ih =>
    intro hw M C hC hlt
    refine cn_sem (fun B hB hσ => hc_ok (fun M' C' h1 h2 => ih (by omega) M' C' h1 (by omega)) hB hσ (fun e => absurd e (by omega))) (hk M C hC)
theorem cns_mem {C : CN} (h : C ∈ cns M) : ∃ l, l ∈ cntt ∧ ∃ k, k ∈ l ∧ C ∈ k := by
  unfold cns at h
  by_cases h1 : M / 16 < cntt.length
  · rw [List.getD_eq_getElem?_getD (l := cntt), List.getElem?_eq_getElem h1, Option.getD_some] at h
    by_cases h2 : M % 16 < (cntt[M / 16]).length
    · rw [List.getD_eq_getElem?_getD, List.getElem?_eq_getElem h2, Option.getD_some] at h
      exact ⟨_, List.getElem_mem h1, _, List.getElem_mem h2, h⟩
    · rw [List.getD_eq_getElem?_getD, List.getElem?_eq_none (by omega)] at h
      cases h
  · have e : cntt.getD (M / 16) [] = [] := by
      rw [List.getD_eq_getElem?_getD, List.getElem?_eq_none (by omega)]
      rfl
    rw [e] at h
    cases h
end
