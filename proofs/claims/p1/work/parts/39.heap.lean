/-! ===== reads and writes of objects ===== -/
theorem fks_lt {f k : Nat} (h : (fks f).contains k = true) : k < 13 := by
  by_cases hf : f < 200
  · have h1 := List.all_eq_true.mp ck_fks f (List.mem_range.mpr hf)
    have h2 := List.all_eq_true.mp h1 k (List.contains_iff_mem.mp h)
    have h3 := (and2 h2).1
    exact of_decide_eq_true h3
  · have e : fks f = [] := by
      unfold fks fr
      have h1 : frs.length ≤ 16 := by decide +kernel
      have h2 : frs.getD (f / 12) [] = [] := by
        rw [List.getD_eq_getElem?_getD, List.getElem?_eq_none (show frs.length ≤ f / 12 by omega)]
        rfl
      rw [h2]
      rfl
    rw [e] at h
    exact Bool.noConfusion h
theorem km_eq {k a c : Nat} (h : KM k a c) (ha : a ≠ 31) : c = a := by
  rcases h with h | ⟨_, h, _⟩
  · exact h
  · exact absurd h ha
section
variable {A nu nu' : Nat → Nat} {base : Nat} {hb : (Nat → Option AO) × Nat} {G G' : SG} {h h' : AH} {os : List SOUT} {lv lv' : SLV} {st st' r : List SV} {L L' : LV} {S S' R : List Value} {c : Int} {a k kd i : Nat}
theorem o_read_ok {l : List SV} {vs : List Value} {cc : Nat} (hR : RM A nu base hb G h) (hL : LVM A nu (g_h G).length (g_n G) lv L) (hS : LM A nu (g_h G).length (g_n G) r R)
    (hk : (g_h G)[k]? = some (kd, .inr l)) (h1 : h.1 (A k) = some (cc, vs)) (hl : LM A nu (g_h G).length (g_n G) l vs) (hs : o_read k kd l i lv r G = some os) : ∃ V, vs[i]? = some V ∧ Cc A nu base hb G h os (nx L (V :: R) h) := by
  unfold o_read at hs
  split at hs
  · cases hs
  · rename_i v hv
    obtain ⟨V, e1, e2⟩ := lm_get hl hv
    refine ⟨V, e1, ?_⟩
    cases hf : fixd v
    · rw [hf, cond_false] at hs
      have ht : v.1 = 0 := by
        unfold fixd at hf
        cases hb : Nat.beq v.1 0
        · rw [hb] at hf; exact Bool.noConfusion hf
        · exact beqt hb
      obtain ⟨X, rfl⟩ := sv_int e2 (by unfold isI; rw [ht]; rfl)
      have hb : v.2.1 ≤ i2n X ∧ i2n X ≤ v.2.2 := by
        rcases e2 with ⟨_, e2⟩ | ⟨e2, _⟩
        · exact e2
        · omega
      obtain ⟨r1, r2, r3, r4, r5⟩ := hR
      have hu : ∀ j, j < g_n G → nset nu (g_n G) (i2n X) j = nu j := fun j hj => nset_lt hj
      have hw : ∀ (n : Nat), SVm A (nset nu (g_n G) (i2n X)) n (g_n G + 1) (s_name G) (.int X) := fun n => .inr ⟨rfl, Nat.lt_succ_self _, (nset_at _ _ _).symm⟩
      have hlen : (set_o k (kd, .inr (l.set i (s_name G))) G.1).length = (g_h G).length := List.length_set
      have hg : Gr nu G (nset nu (g_n G) (i2n X)) (s_heap (s_fresh G v.2.1 v.2.2) (set_o k (kd, .inr (l.set i (s_name G))) G.1)) := ⟨hu, Nat.le_succ _, Nat.le_of_eq hlen.symm⟩
      refine c_nx hs ⟨hg, ⟨⟨env_up r1.1 hb.1 hb.2, fun d hd => dok_up (r1.2 d hd) (Nat.le_succ _) hu⟩, ?_, ?_⟩, lvm_gr hg hL, hw _, lm_gr hg hS⟩
      · show HM A _ (set_o k _ G.1).length (g_n G + 1) (set_o k _ G.1) h
        rw [hlen]
        have hh := hm_more (nu' := nset nu (g_n G) (i2n X)) (m' := g_n G + 1) r2 (Nat.le_refl _) (Nat.le_succ _) hu
        exact hm_ref hh hk h1 (lm_setl (lm_more hl (Nat.le_refl _) (Nat.le_succ _) hu) e1 (hw _))
      · show 7 ≤ (set_o k _ G.1).length ∧ (h.2.1 = base + ((set_o k _ G.1).length - 7) ∧ _)
        rw [hlen]; exact ⟨r3, r4, r5⟩
    · rw [hf, cond_true] at hs
      exact c_nx hs (pn_id hR hL ⟨e2, hS⟩)
theorem o_reads_sub {l : List SV} {x : SV} (n : Nat) : ∀ (i : Nat) (os : List SOUT), o_reads k kd l x n i lv r G = some os → ∀ j, i ≤ j → j < i + n → ∃ os', o_read k kd l j lv r (s_know G x (j + 2147483648) (j + 2147483648)) = some os' ∧ ∀ o, o ∈ os' → o ∈ os := by
  induction n with
  | zero => intro i os _ j h1 h2; omega
  | succ n ih =>
    intro i os hs j h1 h2
    rw [o_reads] at hs
    split at hs
    · rename_i a b ha hb
      cases hs
      by_cases e : i = j
      · subst e
        exact ⟨a, ha, fun o ho => List.mem_append_left _ ho⟩
      · obtain ⟨os', g1, g2⟩ := ih (i + 1) b hb j (by omega) (by omega)
        exact ⟨os', g1, fun o ho => List.mem_append_right _ (g2 o ho)⟩
    · cases hs
theorem S_get_ok {f : Nat} (hR : RM A nu base hb G h) (hL : LVM A nu (g_h G).length (g_n G) lv L) (hS : LM A nu (g_h G).length (g_n G) st S) (hs : S_get f lv st G = some os) : Cc A nu base hb G h os (s_get f L S h) := by
  unfold S_get at hs
  split at hs
  · obtain ⟨V, R, rfl, e1, e2⟩ := lm_cons hS
    replace hs := bif_some hs
    obtain ⟨ho, hs⟩ := hs
    split at hs
    · rename_i kd l hk
      replace hs := bif_some hs
      obtain ⟨hf, hs⟩ := hs
      obtain ⟨rfl, -⟩ := sv_obj e1 ho
      obtain ⟨c, vs, g1, g2, g3, -⟩ := hR.2.1 _ _ hk
      have hc : c = kd := km_eq g2 (by have := fks_lt hf; omega)
      subst hc
      obtain ⟨V, j1, j2⟩ := o_read_ok hR hL e2 hk g1 g3 hs
      unfold s_get am_get
      dsimp only
      rw [g1]
      dsimp only
      rw [if_pos hf, j1]
      exact j2
    · cases hs
  · cases hs
theorem set_o_h (H : List SO) (k : Nat) (o : SO) : (set_o k o H).length = H.length := List.length_set
theorem pn_set {σ : Nat → Nat} {o o' : SC} {vs : List Value} (hA : AOK A σ base) (hR : RM A nu base hb G h) (hL : LVM A nu (g_h G).length (g_n G) lv L) (hS : LM A nu (g_h G).length (g_n G) st S)
    (hk : (g_h G)[k]? = some (kd, o)) (h7 : 7 ≤ k) (ho : CM A nu (g_h G).length (g_n G) o' vs) : PN A nu base hb G lv st (s_heap G (set_o k (kd, o') G.1)) nu L S (am_set h (A k) (kd, vs)) := by
  obtain ⟨r1, r2, r3, r4, r5⟩ := hR
  have hl2 : ∀ o, (set_o k o G.1).length = (g_h G).length := fun o => List.length_set
  refine ⟨⟨fun _ _ => rfl, Nat.le_refl _, Nat.le_of_eq (hl2 _).symm⟩, ⟨r1, ?_, ?_⟩, ?_, ?_⟩
  · show HM A _ (set_o _ _ G.1).length (g_n G) (set_o _ _ G.1) _
    rw [hl2]
    exact hm_set hA r2 hk h7 rfl ho
  · show 7 ≤ (set_o _ _ G.1).length ∧ _ = base + ((set_o _ _ G.1).length - 7) ∧ _
    rw [hl2]; exact ⟨r3, r4, r5.1, fun q hq => (if_neg (by have := hA.2.1 k h7; omega)).trans (r5.2 q hq)⟩
  · show LVM A _ (set_o _ _ G.1).length (g_n G) _ _
    rw [hl2]; exact hL
  · show LM A _ (set_o _ _ G.1).length (g_n G) _ _
    rw [hl2]; exact hS
theorem fit_ok {n : Nat} {c : Nat} {s : SV} {v : Value} (hg : GK nu G) (hv : SVm A nu n (g_n G) s v) (hf : s_fit c G s = true) : am_fit c v = true := by
  unfold s_fit at hf
  cases hi : isI s
  · rw [hi, cond_false] at hf
    obtain ⟨f1, f2⟩ := and2 hf
    have := beqt f2; subst this
    rcases sv_ref hv f1 with rfl | ⟨q, rfl⟩ <;> rfl
  · rw [hi, cond_true] at hf
    obtain ⟨x, rfl⟩ := sv_int hv hi
    cases h0 : Nat.beq c 0
    · rw [h0, Bool.false_or] at hf
      obtain ⟨f1, f2⟩ := and2 hf
      replace f2 := and2 f2
      obtain ⟨f2, f3⟩ := f2
      have := beqt f1; subst this
      have b := sv_itv hv hg.1
      have b1 := blet f2
      have b2 := blet f3
      have hx : x = 0 ∨ x = 1 := by
        have c1 : i2n (1 : Int32) = 2147483649 := by decide +kernel
        by_cases e : i2n x = 2147483648
        · exact .inl ((i2n_zero x).1 e)
        · exact .inr (i2n_inj (by omega))
      rcases hx with rfl | rfl <;> rfl
    · have := beqt h0; subst this; rfl
theorem S_put_ok {σ : Nat → Nat} {f : Nat} (hA : AOK A σ base) (hR : RM A nu base hb G h) (hL : LVM A nu (g_h G).length (g_n G) lv L) (hS : LM A nu (g_h G).length (g_n G) st S) (hs : S_put f lv st G = some os) : Cc A nu base hb G h os (s_put f L S h) := by
  unfold S_put at hs
  split at hs
  · obtain ⟨W, R, rfl, e0, e2⟩ := lm_cons hS
    replace e2 := lm_cons e2
    obtain ⟨V, R, rfl, e1, e2⟩ := e2
    replace hs := bif_some hs
    obtain ⟨ho, hs⟩ := hs
    split at hs
    · rename_i kd l hk
      replace hs := bif_some hs
      obtain ⟨hf, hs⟩ := hs
      obtain ⟨f1, f2⟩ := and2 hf
      replace f2 := and2 f2
      obtain ⟨f2, f3⟩ := f2
      obtain ⟨rfl, -⟩ := sv_obj e1 ho
      obtain ⟨r1, r2, r3, r4, r5⟩ := hR
      obtain ⟨c, vs, g1, g2, g3, g4⟩ := r2 _ _ hk
      have hlt := fks_lt f1
      have hc : c = kd := km_eq g2 (by omega)
      subst hc
      have h7 : 7 ≤ _ := Nat.le_of_not_lt (fun h => by have := g4 h; dsimp only at this; omega)
      unfold s_put am_get
      dsimp only
      rw [g1]
      dsimp only
      have hlen := lm_len g3
      have hb := blet f2
      have e : ((fks f).contains c && (decide (fpos f < vs.length) && am_fit (dcode (fr f).2.2.1) W)) = true := by
        rw [f1, fit_ok r1 e0 f3, decide_eq_true (show fpos f < vs.length by omega)]; rfl
      rw [if_pos e]
      exact c_nx hs (pn_set hA ⟨r1, r2, r3, r4, r5⟩ hL e2 hk h7 (lm_set g3 e0))
    · cases hs
  · cases hs
theorem ld_31 (a : Nat) : am_ld a 31 = am_ld a 30 := by
  unfold am_ld
  split <;> rfl
theorem ld_km {k a c o : Nat} (h : KM k o c) : am_ld a c = am_ld a o := by
  rcases h with h | ⟨_, h1, h2⟩
  · rw [h]
  · rw [h1, h2, ld_31]
theorem j_of {j : Int32} (h : 2147483648 ≤ i2n j) : ¬ j < 0 ∧ j.toNatClampNeg = i2n j - 2147483648 := by
  have h1 := i2n_z j
  constructor
  · intro e
    have e2 := (Int32.lt_iff_toInt_lt).1 e
    have e3 : (0 : Int32).toInt = 0 := rfl
    omega
  · have e2 : j.toNatClampNeg = j.toInt.toNat := rfl
    omega
theorem S_ald_ok (hR : RM A nu base hb G h) (hL : LVM A nu (g_h G).length (g_n G) lv L) (hS : LM A nu (g_h G).length (g_n G) st S) (hs : S_ald a lv st G = some os) : Cc A nu base hb G h os (s_ald a L S h) := by
  unfold S_ald at hs
  split at hs
  · rename_i i x r
    obtain ⟨W, R, rfl, e0, e2⟩ := lm_cons hS
    replace e2 := lm_cons e2
    obtain ⟨V, R, rfl, e1, e2⟩ := e2
    replace hs := bif_some hs
    obtain ⟨ho, hs⟩ := hs
    obtain ⟨ho1, ho2⟩ := and2 ho
    split at hs
    · rename_i kd o hk
      replace hs := bif_some hs
      obtain ⟨hf, hs⟩ := hs
      obtain ⟨f1, f2⟩ := and2 hf
      replace f2 := and2 f2
      obtain ⟨f2, f3⟩ := f2
      obtain ⟨rfl, -⟩ := sv_obj e1 ho2
      obtain ⟨j, rfl⟩ := sv_int e0 ho1
      obtain ⟨c, vs, g1, g2, g3, g4⟩ := hR.2.1 _ _ hk
      have b := sv_itv e0 hR.1.1
      have b1 := blet f2
      have b2 := blet f3
      have hj := j_of (j := j) (by omega)
      have hlen := cm_len g3
      unfold s_ald am_get
      dsimp only
      rw [g1]
      dsimp only
      have e : (am_ld a c && decide (¬ j < 0)) = true := by
        rw [ld_km g2, f1, decide_eq_true hj.1]; rfl
      rw [if_pos e, hj.2]
      cases o with
      | inl q =>
        dsimp only at hs
        have hlt : i2n j - 2147483648 < vs.length := by
          have h3 : vs.length = so_len (Sum.inl q) := hlen
          omega
        have hm : SVm A nu (g_h G).length (g_n G) q.2 vs[i2n j - 2147483648] := g3.2 _ (List.getElem_mem hlt)
        rw [List.getElem?_eq_getElem hlt]
        generalize vs[i2n j - 2147483648] = V at hm ⊢
        cases hfx : fixd q.2
        · rw [hfx, cond_false] at hs
          have ht : q.2.1 = 0 := by
            unfold fixd at hfx
            cases hb : Nat.beq q.2.1 0
            · rw [hb] at hfx; exact Bool.noConfusion hfx
            · exact beqt hb
          obtain ⟨X, rfl⟩ := sv_int hm (by unfold isI; rw [ht]; rfl)
          have hb : q.2.2.1 ≤ i2n X ∧ i2n X ≤ q.2.2.2 := by
            rcases hm with ⟨_, e2⟩ | ⟨e2, _⟩
            · exact e2
            · omega
          obtain ⟨r1, r2, r3, r4, r5⟩ := hR
          have hu : ∀ j, j < g_n G → nset nu (g_n G) (i2n X) j = nu j := fun j hj => nset_lt hj
          have hg : Gr nu G (nset nu (g_n G) (i2n X)) (s_fresh G q.2.2.1 q.2.2.2) := ⟨hu, Nat.le_succ _, Nat.le_refl _⟩
          exact c_nx hs ⟨hg, ⟨⟨env_up r1.1 hb.1 hb.2, fun d hd => dok_up (r1.2 d hd) (Nat.le_succ _) hu⟩, hm_more r2 (Nat.le_refl _) (Nat.le_succ _) hu, r3, r4, r5⟩, lvm_gr hg hL, .inr ⟨rfl, Nat.lt_succ_self _, (nset_at _ _ _).symm⟩, lm_gr hg e2⟩
        · rw [hfx, cond_true] at hs
          exact c_nx hs (pn_id hR hL ⟨hm, e2⟩)
      | inr l =>
        dsimp only at hs
        cases hb : Nat.beq (itv G i).1 (itv G i).2
        · rw [hb, cond_false] at hs
          obtain ⟨os', k1, k2⟩ := o_reads_sub _ _ _ hs (i2n j - 2147483648) (by omega) (by omega)
          rw [show i2n j - 2147483648 + 2147483648 = i2n j by omega] at k1
          have hs1 := s_know_ok (lo := i2n j) (hi := i2n j) hR.1 e0 (Nat.le_refl _) (Nat.le_refl _)
          have hg1 := gr_same hs1
          have eh : g_h (s_know G i (i2n j) (i2n j)) = g_h G := hs1.2.2.1
          obtain ⟨V, k3, k4⟩ := o_read_ok (rm_same hR hs1) (lvm_gr hg1 hL) (lm_gr hg1 e2) (by rw [eh]; exact hk) g1 (lm_gr hg1 g3) k1
          rw [k3]
          exact cc_gr hg1 (cc_sub k2 k4)
        · rw [hb, cond_true] at hs
          have := beqt hb
          rw [show (itv G i).1 = i2n j by omega] at hs
          obtain ⟨V, k3, k4⟩ := o_read_ok hR hL e2 hk g1 g3 hs
          rw [k3]
          exact k4
    · cases hs
  · cases hs
end
