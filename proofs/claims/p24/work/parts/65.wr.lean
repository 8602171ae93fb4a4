/-! ===== writes by the machine ===== -/
section
variable {B : BS} {I : IN} {G G' : SG} {h : AH} {nu' : Nat → Nat}
theorem rm_eta {ho : Nat → Nat → Prop} (hR : RM (B.1, ho) I G h) (hh : ∀ a i, ho a i → B.2 a i) : RM B I G h :=
  rm_ho (b := B.1) (ho' := B.2) hR fun _ _ _ _ _ _ _ w => Or.inr (hh _ _ w)
theorem y_write_ok {c a b q k : Nat} {vs : List Value} {i j v : SV} {V : Value} (hB : ∀ a i, ¬ B.2 a i) (hR : RM B I G h) (hc : c < 1000) (hk12 : cdk c ≠ 12) (oi : okn (g_n G) i) (oj : okn (g_n G) j) (ii : isI i = true) (ij : isI j = true) (hi : sval I.1 i = 2147483648 + a) (hj : sval I.1 j = 2147483648 + b)
    (hq : I.2.2 c a = some q) (hh : h.1 q = some (k, vs)) (hb : b < vs.length) (hv : SVm I (g_h G).length (g_n G) v V) (hs : y_write G c i j v = some G') : ∃ I', RM B I' G' (am_set h q (k, vs.set b V)) ∧ (Gr I G I' G' ∧ I'.2.1 = I.2.1) := by
  unfold y_write at hs
  replace hs := bif_some hs
  obtain ⟨c0, hs⟩ := hs
  obtain ⟨c1, hic⟩ := and2 c0
  have hk29 := blet c1
  split at hs
  · cases hs
  · rename_i ty hty
    have hct := yty_at hty hj
    have hcls := ty_cls hct
    have hjc : cdm c = 0 → j.1 = 0 := by
      intro e
      unfold y_ty at hty
      rw [e] at hty
      replace hty := bif_some hty
      exact beqt (and2 hty.1).1
    obtain ⟨w1, w2⟩ := fwd_ok hR hv
    have fin : ∀ {w : SV}, TV I.2.2 ty a b V → (ty.1 = 5 → V ≠ .null) → SVm I (g_h G).length (g_n G) w V → some (y_set G c i j w) = some G' → ∃ I', RM B I' G' (am_set h q (k, vs.set b V)) ∧ (Gr I G I' G' ∧ I'.2.1 = I.2.1) := by
      intro w hTV hnn hw he
      cases he
      exact ⟨I, wr_ok hR hc hk29 hk12 oi oj ii ij hi hj hjc hic hq hh hb hct hTV hnn hw, gr_refl I G, rfl⟩
    dsimp only at hs
    cases e0 : Nat.beq ty.1 0
    · rw [e0, cond_false] at hs
      cases e1 : Nat.beq ty.1 1
      · rw [e1, cond_false] at hs
        have n0 := beqf e0
        have n1 := beqf e1
        have hc2 := hcls (by omega)
        cases e2 : Nat.beq ty.1 2
        · rw [e2, cond_false] at hs
          cases e3 : Nat.beq ty.1 3
          · rw [e3, cond_false] at hs
            replace hs := bif_some hs
            obtain ⟨e5, hs⟩ := hs
            have h5 := beqt e5
            split at hs
            · rename_i u hu
              replace hs := bif_some hs
              obtain ⟨f0, hs⟩ := hs
              obtain ⟨f1, f2⟩ := and2 f0
              have ew := w2 (beqt f2)
              rw [ew] at f2 hs
              obtain ⟨r1, rfl⟩ := sv_raw hv (beqt f2)
              have hA0 : At I.2.2 h c a b vs[b] := ⟨q, k, vs, hq, hh, List.getElem?_eq_getElem hb⟩
              have hnull := sv_null (find_ok hR ij hi hj hA0 hu) (beqt f1)
              rw [hnull] at hA0
              have hfree : I.2.2 ty.2.1 a = none := by
                rcases hR.2.2.2.1.2.2.2.1.2.2 c b ty hc hct h5 a hA0 with w | w
                · exact w
                · exact absurd w (hB _ _)
              split at hs
              · cases hs
              · rename_i G2 hG2
                cases hs
                obtain ⟨I', p1, p2, p3, p4, p5, p6, p7, p8, p9, p10⟩ := y_pub_ok hR hG2 oi hi hfree (fun _ => by rw [hq]; intro e; cases e)
                have hq' : I'.2.2 c a = some q := p2.2.2.2.2 c a q hc hq
                have hi' : sval I'.1 i = 2147483648 + a := (sval_ag oi p2.1).trans hi
                have hj' : sval I'.1 j = 2147483648 + b := (sval_ag oj p2.1).trans hj
                have oi' := okn_up oi p2.2.1
                have oj' := okn_up oj p2.2.1
                have hRV : RefV I'.2.2 ty.2.1 (2147483648 + a) (.ref (I.2.1 v.2.1)) := Or.inr ⟨by omega, _, by rw [show 2147483648 + a - 2147483648 = a by omega]; exact p4, rfl⟩
                have hsv : SVm I' (g_h G2).length (g_n G2) (y_ref ty.2.1 i) (.ref (I.2.1 v.2.1)) := sv_yref ii oi' hc2 (by rw [hi']; exact hRV)
                have hw := wr_ok p1 hc hk29 hk12 oi' oj' ii ij hi' hj' hjc (by rw [p8]; exact hic) hq' hh hb hct (Or.inr (Or.inr (Or.inr (Or.inr (Or.inr (Or.inl ⟨h5, Or.inr hRV⟩)))))) (fun _ e => by cases e) hsv
                refine ⟨I', rm_ho (b := B.1) (ho' := B.2) hw fun c' p ty' hty' h5' i' hA hh' => ?_, ?_, p3⟩
                · rcases hh' with w | ⟨z1, z2, z3⟩
                  · exact Or.inr w
                  · exfalso
                    have hm5 := ck_5 hty' h5'
                    have hp9 : p < 99999 := by
                      unfold ct_at at hty'
                      rw [hm5] at hty'
                      have hl9 : p < (cd c').2.2.length := (List.getElem?_eq_some_iff.mp (show (cd c').2.2[p]? = some ty' from hty')).1
                      have := cd_len c'
                      omega
                    obtain ⟨y1, y2⟩ := n5x_ok p9 hty' h5' z2 hp9
                    have hm : cdm c = 0 := by rw [← y1]; exact hm5
                    have j0 := hjc hm
                    have ej : sval I.1 j = j.2.1 := by unfold sval isN; rw [j0]; rfl
                    have hpb : p = b := by omega
                    rw [y1, z3, hpb] at hA
                    have := at_fun hA (at_set_eq hq' hb)
                    cases this
                · exact gr_trans p2 ⟨fun _ _ => rfl, Nat.le_refl _, fun _ _ => rfl, Nat.le_refl _, fun _ _ _ _ hh => hh⟩
            · cases hs
          · rw [e3, cond_true] at hs
            replace hs := bif_some hs
            obtain ⟨f0, hs⟩ := hs
            obtain ⟨f1, f2⟩ := and2 f0
            obtain ⟨f1, f3⟩ := and2 f1
            obtain ⟨s1, s2, s3⟩ := sv_typ w1 f1
            have bb := (itv_ok hR.1.1 (y_idx (y_fwd G v))).1
            have b2 := blet f2
            rw [beqt f3] at s3
            exact fin (Or.inr (Or.inr (Or.inr (Or.inl ⟨beqt e3, _, by omega, s3⟩)))) (fun e => by have := beqt e3; omega) w1 hs
        · rw [e2, cond_true] at hs
          have h2 := beqt e2
          cases e5 : Nat.beq (y_fwd G v).1 5
          · rw [e5, cond_false] at hs
            replace hs := bif_some hs
            obtain ⟨f0, hs⟩ := hs
            refine fin ?_ (fun e => by omega) w1 hs
            rcases or2 f0 with f | f
            · exact Or.inr (Or.inr (Or.inl ⟨h2, 2147483647, Or.inl ⟨rfl, sv_null w1 (beqt f)⟩⟩))
            · obtain ⟨f1, f2⟩ := and2 f
              obtain ⟨s1, s2, s3⟩ := sv_typ w1 f1
              rw [beqt f2] at s3
              exact Or.inr (Or.inr (Or.inl ⟨h2, _, s3⟩))
          · rw [e5, cond_true] at hs
            have ew := w2 (beqt e5)
            rw [ew] at e5 hs
            obtain ⟨r1, rfl⟩ := sv_raw hv (beqt e5)
            split at hs
            · cases hs
            · rename_i n hn
              obtain ⟨-, n1, n2, n3⟩ := cnt_ok hR hn
              split at hs
              · cases hs
              · rename_i G2 hG2
                cases hs
                have hlo : 2147483648 ≤ sval I.1 n := pub_lo hR hG2
                obtain ⟨E, hE⟩ : ∃ E, sval I.1 n = 2147483648 + E := ⟨sval I.1 n - 2147483648, by omega⟩
                have hfree : I.2.2 ty.2.1 E = none := by
                  cases ee : I.2.2 ty.2.1 E with
                  | none => rfl
                  | some q2 =>
                    have := (n3 E).mp (by rw [ee]; intro e; cases e)
                    omega
                obtain ⟨I', p1, p2, p3, p4, p5, p6, p7, p8, p9, p10⟩ := y_pub_ok hR hG2 n2 hE hfree (fun e => by omega)
                have hq' : I'.2.2 c a = some q := p2.2.2.2.2 c a q hc hq
                have hi' : sval I'.1 i = 2147483648 + a := (sval_ag oi p2.1).trans hi
                have hj' : sval I'.1 j = 2147483648 + b := (sval_ag oj p2.1).trans hj
                have hn' : sval I'.1 n = 2147483648 + E := (sval_ag n2 p2.1).trans hE
                have oi' := okn_up oi p2.2.1
                have oj' := okn_up oj p2.2.1
                have hRV : RefV I'.2.2 ty.2.1 (2147483648 + E) (.ref (I.2.1 v.2.1)) := Or.inr ⟨by omega, _, by rw [show 2147483648 + E - 2147483648 = E by omega]; exact p4, rfl⟩
                have hsv : SVm I' (g_h G2).length (g_n G2) (y_ref ty.2.1 n) (.ref (I.2.1 v.2.1)) := sv_yref n1 (okn_up n2 p2.2.1) hc2 (by rw [hn']; exact hRV)
                have p1' : RM B I' G2 h := rm_eta p1 fun a i w => by
                  rcases w with w | ⟨w, -⟩
                  · exact w
                  · omega
                have hw := wr_ok p1' hc hk29 hk12 oi' oj' ii ij hi' hj' hjc (by rw [p8]; exact hic) hq' hh hb hct (Or.inr (Or.inr (Or.inl ⟨h2, _, hRV⟩))) (fun e => by omega) hsv
                exact ⟨I', hw, gr_trans p2 ⟨fun _ _ => rfl, Nat.le_refl _, fun _ _ => rfl, Nat.le_refl _, fun _ _ _ _ hh => hh⟩, p3⟩
      · rw [e1, cond_true] at hs
        replace hs := bif_some hs
        obtain ⟨f0, hs⟩ := hs
        obtain ⟨X, rfl, -⟩ := sv_long w1 f0
        exact fin (Or.inr (Or.inl ⟨beqt e1, X, rfl⟩)) (fun e => by have := beqt e1; omega) w1 hs
    · rw [e0, cond_true] at hs
      replace hs := bif_some hs
      obtain ⟨f0, hs⟩ := hs
      obtain ⟨f1, f2⟩ := and2 f0
      obtain ⟨X, rfl, hX⟩ := sv_int w1 f1
      have := fit_ok hR.1 hX f2
      exact fin (Or.inl ⟨beqt e0, X, rfl, this⟩) (fun e => by have := beqt e0; omega) w1 hs
where
  pub_lo {B : BS} {I : IN} {G G2 : SG} {h : AH} {k c ow op : Nat} {e : SV} (hR : RM B I G h) (hs : y_pub G k c e ow op = some G2) : 2147483648 ≤ sval I.1 e := by
    unfold y_pub at hs
    split at hs
    · cases hs
    · rename_i G3 hG3
      clear hs
      unfold y_pub0 at hG3
      split at hG3
      · replace hG3 := bif_some hG3
        obtain ⟨c0, -⟩ := hG3
        obtain ⟨-, c2⟩ := and2 c0
        obtain ⟨-, c2⟩ := and2 c2
        have := blet c2
        have := (itv_ok hR.1.1 e).1
        omega
      · cases hG3
end
