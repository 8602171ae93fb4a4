/-! ===== reads and writes of objects ===== -/
theorem qe_fks_lt {f k : Nat} (h : (fks f).contains k = true) : k < 13 := by
  by_cases hf : f < 200
  · have h1 := List.all_eq_true.mp ck_fks f (List.mem_range.mpr hf)
    have h2 := List.all_eq_true.mp h1 k (List.contains_iff_mem.mp h)
    have h3 := (qe_and2 h2).1
    exact of_decide_eq_true h3
  · have e : fks f = [] := by
      unfold fks fr
      have h1 : frs.length ≤ 16 := by decide +kernel
      have h2 : frs.getD (f / 12) [] = [] := by
        rw [List.getD_eq_getElem?_getD, List.getElem?_eq_none (show frs.length ≤ f / 12 by omega)]
        rfl
      rw [h2]
      rfl
    rw [e] at h
    exact Bool.noConfusion h
theorem qe_km_eq {k a c : Nat} (h : qe_KM k a c) (ha : a ≠ 31) : c = a := by
  rcases h with h | ⟨_, h, _⟩
  · exact h
  · exact absurd h ha
section
variable {A nu nu' : Nat → Nat} {base : Nat} {hb : (Nat → Option AO) × Nat} {G G' : qe_SG} {h h' : AH} {os : List qe_SOUT} {lv lv' : qe_SLV} {st st' r : List qe_SV} {L L' : LV} {S S' R : List Value} {c : Int} {a k kd i : Nat}
theorem qe_o_read_ok {l : List qe_SV} {vs : List Value} {cc : Nat} (hR : qe_RM A nu base hb G h) (hL : qe_LVM A nu (qe_g_h G).length (qe_g_n G) lv L) (hS : qe_LM A nu (qe_g_h G).length (qe_g_n G) r R)
    (hk : (qe_g_h G)[k]? = some (kd, .inr l)) (h1 : h.1 (A k) = some (cc, vs)) (hl : qe_LM A nu (qe_g_h G).length (qe_g_n G) l vs) (hs : qe_o_read k kd l i lv r G = some os) : ∃ V, vs[i]? = some V ∧ qe_Cc A nu base hb G h os (nx L (V :: R) h) := by
  unfold qe_o_read at hs
  split at hs
  · cases hs
  · rename_i v hv
    obtain ⟨V, e1, e2⟩ := qe_lm_get hl hv
    refine ⟨V, e1, ?_⟩
    cases hf : qe_fixd v
    · rw [hf, cond_false] at hs
      have ht : v.1 = 0 := by
        unfold qe_fixd at hf
        cases hb : Nat.beq v.1 0
        · rw [hb] at hf; exact Bool.noConfusion hf
        · exact qe_beqt hb
      obtain ⟨X, rfl⟩ := qe_sv_int e2 (by unfold qe_isI; rw [ht]; rfl)
      have hb : v.2.1 ≤ qe_i2n X ∧ qe_i2n X ≤ v.2.2 := by
        rcases e2 with ⟨_, e2⟩ | ⟨e2, _⟩
        · exact e2
        · omega
      obtain ⟨r1, r2, r3, r4, r5⟩ := hR
      have hu : ∀ j, j < qe_g_n G → qe_nset nu (qe_g_n G) (qe_i2n X) j = nu j := fun j hj => qe_nset_lt hj
      have hw : ∀ (n : Nat), qe_SVm A (qe_nset nu (qe_g_n G) (qe_i2n X)) n (qe_g_n G + 1) (qe_s_name G) (.int X) := fun n => .inr ⟨rfl, Nat.lt_succ_self _, (qe_nset_at _ _ _).symm⟩
      have hlen : (qe_set_o k (kd, .inr (l.set i (qe_s_name G))) G.1).length = (qe_g_h G).length := List.length_set
      have hg : qe_Gr nu G (qe_nset nu (qe_g_n G) (qe_i2n X)) (qe_s_heap (qe_s_fresh G v.2.1 v.2.2) (qe_set_o k (kd, .inr (l.set i (qe_s_name G))) G.1)) := ⟨hu, Nat.le_succ _, Nat.le_of_eq hlen.symm⟩
      refine qe_c_nx hs ⟨hg, ⟨⟨qe_env_up r1.1 hb.1 hb.2, fun d hd => qe_dok_up (r1.2 d hd) (Nat.le_succ _) hu⟩, ?_, ?_⟩, qe_lvm_gr hg hL, hw _, qe_lm_gr hg hS⟩
      · show qe_HM A _ (qe_set_o k _ G.1).length (qe_g_n G + 1) (qe_set_o k _ G.1) h
        rw [hlen]
        have hh := qe_hm_more (nu' := qe_nset nu (qe_g_n G) (qe_i2n X)) (m' := qe_g_n G + 1) r2 (Nat.le_refl _) (Nat.le_succ _) hu
        exact qe_hm_ref hh hk h1 (qe_lm_setl (qe_lm_more hl (Nat.le_refl _) (Nat.le_succ _) hu) e1 (hw _))
      · show 7 ≤ (qe_set_o k _ G.1).length ∧ (h.2.1 = base + ((qe_set_o k _ G.1).length - 7) ∧ _)
        rw [hlen]; exact ⟨r3, r4, r5⟩
    · rw [hf, cond_true] at hs
      exact qe_c_nx hs (qe_pn_id hR hL ⟨e2, hS⟩)
theorem qe_o_reads_sub {l : List qe_SV} {x : qe_SV} (n : Nat) : ∀ (i : Nat) (os : List qe_SOUT), qe_o_reads k kd l x n i lv r G = some os → ∀ j, i ≤ j → j < i + n → ∃ os', qe_o_read k kd l j lv r (qe_s_know G x (j + 2147483648) (j + 2147483648)) = some os' ∧ ∀ o, o ∈ os' → o ∈ os := by
  induction n with
  | zero => intro i os _ j h1 h2; omega
  | succ n ih =>
    intro i os hs j h1 h2
    rw [qe_o_reads] at hs
    split at hs
    · rename_i a b ha hb
      cases hs
      by_cases e : i = j
      · subst e
        exact ⟨a, ha, fun o ho => List.mem_append_left _ ho⟩
      · obtain ⟨os', g1, g2⟩ := ih (i + 1) b hb j (by omega) (by omega)
        exact ⟨os', g1, fun o ho => List.mem_append_right _ (g2 o ho)⟩
    · cases hs
theorem qe_S_get_ok {f : Nat} (hR : qe_RM A nu base hb G h) (hL : qe_LVM A nu (qe_g_h G).length (qe_g_n G) lv L) (hS : qe_LM A nu (qe_g_h G).length (qe_g_n G) st S) (hs : qe_S_get f lv st G = some os) : qe_Cc A nu base hb G h os (s_get f L S h) := by
  unfold qe_S_get at hs
  split at hs
  · obtain ⟨V, R, rfl, e1, e2⟩ := qe_lm_cons hS
    replace hs := qe_bif_some hs
    obtain ⟨ho, hs⟩ := hs
    split at hs
    · rename_i kd l hk
      replace hs := qe_bif_some hs
      obtain ⟨hf, hs⟩ := hs
      obtain ⟨rfl, -⟩ := qe_sv_obj e1 ho
      obtain ⟨c, vs, g1, g2, g3, -⟩ := hR.2.1 _ _ hk
      have hc : c = kd := qe_km_eq g2 (by have := qe_fks_lt hf; omega)
      subst hc
      obtain ⟨V, j1, j2⟩ := qe_o_read_ok hR hL e2 hk g1 g3 hs
      unfold s_get am_get
      dsimp only
      rw [g1]
      dsimp only
      rw [if_pos hf, j1]
      exact j2
    · cases hs
  · cases hs
theorem qe_set_o_h (H : List qe_SO) (k : Nat) (o : qe_SO) : (qe_set_o k o H).length = H.length := List.length_set
theorem qe_pn_set {σ : Nat → Nat} {o o' : qe_SC} {vs : List Value} (hA : qe_AOK A σ base) (hR : qe_RM A nu base hb G h) (hL : qe_LVM A nu (qe_g_h G).length (qe_g_n G) lv L) (hS : qe_LM A nu (qe_g_h G).length (qe_g_n G) st S)
    (hk : (qe_g_h G)[k]? = some (kd, o)) (h7 : 7 ≤ k) (ho : qe_CM A nu (qe_g_h G).length (qe_g_n G) o' vs) : qe_PN A nu base hb G lv st (qe_s_heap G (qe_set_o k (kd, o') G.1)) nu L S (am_set h (A k) (kd, vs)) := by
  obtain ⟨r1, r2, r3, r4, r5⟩ := hR
  have hl2 : ∀ o, (qe_set_o k o G.1).length = (qe_g_h G).length := fun o => List.length_set
  refine ⟨⟨fun _ _ => rfl, Nat.le_refl _, Nat.le_of_eq (hl2 _).symm⟩, ⟨r1, ?_, ?_⟩, ?_, ?_⟩
  · show qe_HM A _ (qe_set_o _ _ G.1).length (qe_g_n G) (qe_set_o _ _ G.1) _
    rw [hl2]
    exact qe_hm_set hA r2 hk h7 rfl ho
  · show 7 ≤ (qe_set_o _ _ G.1).length ∧ _ = base + ((qe_set_o _ _ G.1).length - 7) ∧ _
    rw [hl2]; exact ⟨r3, r4, r5.1, fun q hq => (if_neg (by have := hA.2.1 k h7; omega)).trans (r5.2 q hq)⟩
  · show qe_LVM A _ (qe_set_o _ _ G.1).length (qe_g_n G) _ _
    rw [hl2]; exact hL
  · show qe_LM A _ (qe_set_o _ _ G.1).length (qe_g_n G) _ _
    rw [hl2]; exact hS
theorem qe_fit_ok {n : Nat} {c : Nat} {s : qe_SV} {v : Value} (hg : qe_GK nu G) (hv : qe_SVm A nu n (qe_g_n G) s v) (hf : qe_s_fit c G s = true) : am_fit c v = true := by
  unfold qe_s_fit at hf
  cases hi : qe_isI s
  · rw [hi, cond_false] at hf
    obtain ⟨f1, f2⟩ := qe_and2 hf
    have := qe_beqt f2; subst this
    rcases qe_sv_ref hv f1 with rfl | ⟨q, rfl⟩ <;> rfl
  · rw [hi, cond_true] at hf
    obtain ⟨x, rfl⟩ := qe_sv_int hv hi
    cases h0 : Nat.beq c 0
    · rw [h0, Bool.false_or] at hf
      obtain ⟨f1, f2⟩ := qe_and2 hf
      replace f2 := qe_and2 f2
      obtain ⟨f2, f3⟩ := f2
      have := qe_beqt f1; subst this
      have b := qe_sv_itv hv hg.1
      have b1 := qe_blet f2
      have b2 := qe_blet f3
      have hx : x = 0 ∨ x = 1 := by
        have c1 : qe_i2n (1 : Int32) = 2147483649 := by decide +kernel
        by_cases e : qe_i2n x = 2147483648
        · exact .inl ((qe_i2n_zero x).1 e)
        · exact .inr (qe_i2n_inj (by omega))
      rcases hx with rfl | rfl <;> rfl
    · have := qe_beqt h0; subst this; rfl
theorem qe_S_put_ok {σ : Nat → Nat} {f : Nat} (hA : qe_AOK A σ base) (hR : qe_RM A nu base hb G h) (hL : qe_LVM A nu (qe_g_h G).length (qe_g_n G) lv L) (hS : qe_LM A nu (qe_g_h G).length (qe_g_n G) st S) (hs : qe_S_put f lv st G = some os) : qe_Cc A nu base hb G h os (s_put f L S h) := by
  unfold qe_S_put at hs
  split at hs
  · obtain ⟨W, R, rfl, e0, e2⟩ := qe_lm_cons hS
    replace e2 := qe_lm_cons e2
    obtain ⟨V, R, rfl, e1, e2⟩ := e2
    replace hs := qe_bif_some hs
    obtain ⟨ho, hs⟩ := hs
    split at hs
    · rename_i kd l hk
      replace hs := qe_bif_some hs
      obtain ⟨hf, hs⟩ := hs
      obtain ⟨f1, f2⟩ := qe_and2 hf
      replace f2 := qe_and2 f2
      obtain ⟨f2, f3⟩ := f2
      obtain ⟨rfl, -⟩ := qe_sv_obj e1 ho
      obtain ⟨r1, r2, r3, r4, r5⟩ := hR
      obtain ⟨c, vs, g1, g2, g3, g4⟩ := r2 _ _ hk
      have hlt := qe_fks_lt f1
      have hc : c = kd := qe_km_eq g2 (by omega)
      subst hc
      have h7 : 7 ≤ _ := Nat.le_of_not_lt (fun h => by have := g4 h; dsimp only at this; omega)
      unfold s_put am_get
      dsimp only
      rw [g1]
      dsimp only
      have hlen := qe_lm_len g3
      have hb := qe_blet f2
      have e : ((fks f).contains c && (decide (fpos f < vs.length) && am_fit (dcode (fr f).2.2.1) W)) = true := by
        rw [f1, qe_fit_ok r1 e0 f3, decide_eq_true (show fpos f < vs.length by omega)]; rfl
      rw [if_pos e]
      exact qe_c_nx hs (qe_pn_set hA ⟨r1, r2, r3, r4, r5⟩ hL e2 hk h7 (qe_lm_set g3 e0))
    · cases hs
  · cases hs
theorem qe_ld_31 (a : Nat) : am_ld a 31 = am_ld a 30 := by
  unfold am_ld
  split <;> rfl
theorem qe_ld_km {k a c o : Nat} (h : qe_KM k o c) : am_ld a c = am_ld a o := by
  rcases h with h | ⟨_, h1, h2⟩
  · rw [h]
  · rw [h1, h2, qe_ld_31]
theorem qe_j_of {j : Int32} (h : 2147483648 ≤ qe_i2n j) : ¬ j < 0 ∧ j.toNatClampNeg = qe_i2n j - 2147483648 := by
  have h1 := qe_i2n_z j
  constructor
  · intro e
    have e2 := (Int32.lt_iff_toInt_lt).1 e
    have e3 : (0 : Int32).toInt = 0 := rfl
    omega
  · have e2 : j.toNatClampNeg = j.toInt.toNat := rfl
    omega
theorem qe_S_ald_ok (hR : qe_RM A nu base hb G h) (hL : qe_LVM A nu (qe_g_h G).length (qe_g_n G) lv L) (hS : qe_LM A nu (qe_g_h G).length (qe_g_n G) st S) (hs : qe_S_ald a lv st G = some os) : qe_Cc A nu base hb G h os (s_ald a L S h) := by
  unfold qe_S_ald at hs
  split at hs
  · rename_i i x r
    obtain ⟨W, R, rfl, e0, e2⟩ := qe_lm_cons hS
    replace e2 := qe_lm_cons e2
    obtain ⟨V, R, rfl, e1, e2⟩ := e2
    replace hs := qe_bif_some hs
    obtain ⟨ho, hs⟩ := hs
    obtain ⟨ho1, ho2⟩ := qe_and2 ho
    split at hs
    · rename_i kd o hk
      replace hs := qe_bif_some hs
      obtain ⟨hf, hs⟩ := hs
      obtain ⟨f1, f2⟩ := qe_and2 hf
      replace f2 := qe_and2 f2
      obtain ⟨f2, f3⟩ := f2
      obtain ⟨rfl, -⟩ := qe_sv_obj e1 ho2
      obtain ⟨j, rfl⟩ := qe_sv_int e0 ho1
      obtain ⟨c, vs, g1, g2, g3, g4⟩ := hR.2.1 _ _ hk
      have b := qe_sv_itv e0 hR.1.1
      have b1 := qe_blet f2
      have b2 := qe_blet f3
      have hj := qe_j_of (j := j) (by omega)
      have hlen := qe_cm_len g3
      unfold s_ald am_get
      dsimp only
      rw [g1]
      dsimp only
      have e : (am_ld a c && decide (¬ j < 0)) = true := by
        rw [qe_ld_km g2, f1, decide_eq_true hj.1]; rfl
      rw [if_pos e, hj.2]
      cases o with
      | inl q =>
        dsimp only at hs
        have hlt : qe_i2n j - 2147483648 < vs.length := by
          have h3 : vs.length = qe_so_len (Sum.inl q) := hlen
          omega
        have hm : qe_SVm A nu (qe_g_h G).length (qe_g_n G) q.2 vs[qe_i2n j - 2147483648] := g3.2 _ (List.getElem_mem hlt)
        rw [List.getElem?_eq_getElem hlt]
        generalize vs[qe_i2n j - 2147483648] = V at hm ⊢
        cases hfx : qe_fixd q.2
        · rw [hfx, cond_false] at hs
          have ht : q.2.1 = 0 := by
            unfold qe_fixd at hfx
            cases hb : Nat.beq q.2.1 0
            · rw [hb] at hfx; exact Bool.noConfusion hfx
            · exact qe_beqt hb
          obtain ⟨X, rfl⟩ := qe_sv_int hm (by unfold qe_isI; rw [ht]; rfl)
          have hb : q.2.2.1 ≤ qe_i2n X ∧ qe_i2n X ≤ q.2.2.2 := by
            rcases hm with ⟨_, e2⟩ | ⟨e2, _⟩
            · exact e2
            · omega
          obtain ⟨r1, r2, r3, r4, r5⟩ := hR
          have hu : ∀ j, j < qe_g_n G → qe_nset nu (qe_g_n G) (qe_i2n X) j = nu j := fun j hj => qe_nset_lt hj
          have hg : qe_Gr nu G (qe_nset nu (qe_g_n G) (qe_i2n X)) (qe_s_fresh G q.2.2.1 q.2.2.2) := ⟨hu, Nat.le_succ _, Nat.le_refl _⟩
          exact qe_c_nx hs ⟨hg, ⟨⟨qe_env_up r1.1 hb.1 hb.2, fun d hd => qe_dok_up (r1.2 d hd) (Nat.le_succ _) hu⟩, qe_hm_more r2 (Nat.le_refl _) (Nat.le_succ _) hu, r3, r4, r5⟩, qe_lvm_gr hg hL, .inr ⟨rfl, Nat.lt_succ_self _, (qe_nset_at _ _ _).symm⟩, qe_lm_gr hg e2⟩
        · rw [hfx, cond_true] at hs
          exact qe_c_nx hs (qe_pn_id hR hL ⟨hm, e2⟩)
      | inr l =>
        dsimp only at hs
        cases hb : Nat.beq (qe_itv G i).1 (qe_itv G i).2
        · rw [hb, cond_false] at hs
          obtain ⟨os', k1, k2⟩ := qe_o_reads_sub _ _ _ hs (qe_i2n j - 2147483648) (by omega) (by omega)
          rw [show qe_i2n j - 2147483648 + 2147483648 = qe_i2n j by omega] at k1
          have hs1 := qe_s_know_ok (lo := qe_i2n j) (hi := qe_i2n j) hR.1 e0 (Nat.le_refl _) (Nat.le_refl _)
          have hg1 := qe_gr_same hs1
          have eh : qe_g_h (qe_s_know G i (qe_i2n j) (qe_i2n j)) = qe_g_h G := hs1.2.2.1
          obtain ⟨V, k3, k4⟩ := qe_o_read_ok (qe_rm_same hR hs1) (qe_lvm_gr hg1 hL) (qe_lm_gr hg1 e2) (by rw [eh]; exact hk) g1 (qe_lm_gr hg1 g3) k1
          rw [k3]
          exact qe_cc_gr hg1 (qe_cc_sub k2 k4)
        · rw [hb, cond_true] at hs
          have := qe_beqt hb
          rw [show (qe_itv G i).1 = qe_i2n j by omega] at hs
          obtain ⟨V, k3, k4⟩ := qe_o_read_ok hR hL e2 hk g1 g3 hs
          rw [k3]
          exact k4
    · cases hs
  · cases hs
end
