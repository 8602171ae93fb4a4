/-! ===== rows made, rows cloned, statics, Math ===== -/
theorem ble_f {a b : Nat} (h : Nat.ble a b = false) : b < a := by
  apply Classical.byContradiction
  intro hh
  rw [Nat.ble_eq_true_of_le (by omega)] at h
  exact Bool.noConfusion h
section
variable {B : BS} {I I' : IN} {n m : Nat} {G G' : SG} {h h' : AH} {os : List SOUT} {lv lv' : SLV} {st st' r : List SV} {L L' : LV} {S S' R : List Value} {c : Int} {a k kd i f : Nat}
theorem newa_cm (k N : Nat) : CMr I n m (bif Nat.ble 20 k && Nat.ble k 23 then .inl (N, y_dv k) else .inr (List.replicate N snull)) (List.replicate N (am_def k)) := by
  cases h1 : Nat.ble 20 k && Nat.ble k 23
  · rw [cond_false]
    have e : am_def k = .null := by
      unfold am_def
      rw [if_neg, if_neg]
      · intro hk
        rcases hk with hk | hk | hk <;> (subst hk; exact Bool.noConfusion h1)
      · intro hk
        subst hk
        exact Bool.noConfusion h1
    rw [e]
    exact lm_rep (Or.inr (Or.inr (Or.inl ⟨rfl, rfl⟩))) N
  · rw [cond_true]
    obtain ⟨h1, h2⟩ := and2 h1
    have h1 := blet h1
    have h2 := blet h2
    refine ⟨List.length_replicate, fun v hv => ?_⟩
    rw [(List.mem_replicate.mp hv).2]
    unfold y_dv am_def
    by_cases e : k = 21
    · rw [e]
      exact Or.inr ⟨rfl, 0, rfl⟩
    · rw [if_neg e, if_pos (by omega)]
      have e2 : Nat.beq k 21 = false := by
        cases e2 : Nat.beq k 21
        · rfl
        · exact absurd (beqt e2) e
      rw [e2, cond_false]
      exact Or.inl ⟨rfl, 0, rfl, by rw [c_0]; exact Nat.le_refl _, by rw [c_0]; exact Nat.le_refl _⟩
theorem Y_newa_ok (h30 : k < 30) (hR : RM B I G h) (hK : KN lv) (hL : LVM I (g_h G).length (g_n G) lv L) (hS : LM I (g_h G).length (g_n G) st S) (hs : Y_newa k lv st G = some os) : Cc B I G h os (s_newa k L S h) := by
  unfold Y_newa at hs
  split at hs
  · rename_i x r
    obtain ⟨V, R2, rfl, g1, g2⟩ := lm_cons hS
    replace hs := bif_some hs
    obtain ⟨f0, hs⟩ := hs
    obtain ⟨y, rfl, hy⟩ := sv_int g1 f0
    dsimp only at hs
    replace hs := bif_some hs
    obtain ⟨f1, hs⟩ := hs
    obtain ⟨f1, f2⟩ := and2 f1
    obtain ⟨f2, f3⟩ := and2 f2
    have f1 := beqt f1
    have f2 := blet f2
    have f3 := blet f3
    have b := itv_ok hR.1.1 x
    rw [← hy.2.2] at b
    have j12 := j_of (j := y) (by omega)
    obtain ⟨j1, j2⟩ := j12
    have e : (itv G x).1 - 2147483648 = y.toNatClampNeg := by omega
    rw [e] at hs
    unfold s_newa
    show Cc B I G h os (s_new y k L R2 h)
    unfold s_new
    rw [if_pos ⟨j1, by omega⟩]
    exact c_push hR hK hL g2 h30 (newa_cm k _) hs
  · cases hs
theorem stat_okk {σ : Nat → Nat} (hσ : ∀ i, i < 6 → B.1.1 (stc i) 0 = some (σ i)) (ha : a < 6) (hR : RM B I G h) (hK : KN lv) (hL : LVM I (g_h G).length (g_n G) lv L) (hS : LM I (g_h G).length (g_n G) st S) (hs : o_nx lv ((7, stc a, 2147483648) :: st) G = some os) : Cc B I G h os (nx L (.ref (σ a) :: S) h) := by
  have hc : stc a < 1000 := by unfold stc; omega
  obtain ⟨-, -, -, -, -, -, -, s3, -⟩ := hR.2
  have e : sval I.1 (y_idx (7, stc a, 2147483648)) = 2147483648 := rfl
  have h1 := s3 _ _ _ hc (hσ a ha)
  have h2 : RefV I.2.2 (stc a) (sval I.1 (y_idx (7, stc a, 2147483648))) (.ref (σ a)) := by
    rw [e]
    refine Or.inr ⟨Nat.le_of_eq rfl, σ a, ?_, rfl⟩
    rw [Nat.sub_self]
    exact h1
  exact c_nx hs (pn_id hR hK hL ⟨Or.inr (Or.inr (Or.inr (Or.inr ⟨rfl, fun hq => Bool.noConfusion hq, hc, h2⟩))), hS⟩)
theorem y_sum_ok {nu : Nat → Nat} {j n : SV} {len : Nat} (hg : GK nu G) (oj : okn (g_n G) j) (on : okn (g_n G) n) (hs : y_sum G j n len = true) : sval nu j + sval nu n ≤ 4294967296 + len := by
  obtain ⟨x1, x2⟩ := lf_ok hg oj
  obtain ⟨y1, y2⟩ := lf_ok hg on
  unfold y_sum at hs
  dsimp only at hs
  have h1 := lchk_ok hg.1 (fun f hf => (hg.2.2.2 f hf).2) 2 _ hs
  rw [lnorm_le] at h1
  unfold LFle at h1
  unfold LFeq at x2 y2
  dsimp only at h1
  rw [nsum_app, nsum_app] at h1
  omega
theorem i_max (x y : Int32) : i2n (if x < y then y else x) = max (i2n x) (i2n y) := by
  by_cases e : x < y
  · rw [if_pos e]
    have := (i_lt x y).mp e
    omega
  · rw [if_neg e]
    have : ¬ i2n x < i2n y := fun q => e ((i_lt x y).mpr q)
    omega
theorem i_min (x y : Int32) : i2n (if y < x then y else x) = min (i2n x) (i2n y) := by
  by_cases e : y < x
  · rw [if_pos e]
    have := (i_lt y x).mp e
    omega
  · rw [if_neg e]
    have : ¬ i2n y < i2n x := fun q => e ((i_lt y x).mpr q)
    omega
theorem nmax_eq (a b : Nat) : nmax a b = max a b := by
  have h1 := nmax_l a b
  have h2 := nmax_r a b
  have h3 : nmax a b = a ∨ nmax a b = b := by
    unfold nmax
    cases Nat.ble a b
    · exact Or.inl rfl
    · exact Or.inr rfl
  omega
theorem nmin_eq (a b : Nat) : nmin a b = min a b := by
  have h1 := nmin_l a b
  have h2 := nmin_r a b
  have h3 : nmin a b = a ∨ nmin a b = b := by
    unfold nmin
    cases Nat.ble a b
    · exact Or.inr rfl
    · exact Or.inl rfl
  omega
theorem veq_refl (x : SV) : veq x x = true := by
  unfold veq
  rw [Nat.beq_refl, Nat.beq_refl, Nat.beq_refl]
  rfl
theorem mm_ok {x y v : SV} {X Y : Int32} (ha : a = 0 ∨ a = 1) (hg : GK I.1 G) (hx : IV I.1 (g_n G) x X) (hy : IV I.1 (g_n G) y Y) (hs : y_mm a x y G = some (v, G')) : ∃ nu', NK I.1 G nu' G' ∧ ((a = 0 ∧ IV nu' (g_n G') v (if X < Y then Y else X)) ∨ (a = 1 ∧ IV nu' (g_n G') v (if Y < X then Y else X))) := by
  have bx := itv_ok hg.1 x
  have b_y := itv_ok hg.1 y
  have hxv := hx.2.2
  have hyv := hy.2.2
  unfold y_mm at hs
  dsimp only at hs
  have same : ∀ {Z : Int32}, X = Z → some (x, G) = some (v, G') → ∃ nu', NK I.1 G nu' G' ∧ IV nu' (g_n G') v Z := by
    intro Z e hs
    injection hs with hs
    injection hs with e1 e2
    subst e1; subst e2; subst e
    exact ⟨I.1, nk_refl hg, hx⟩
  have same2 : ∀ {Z : Int32}, Y = Z → some (y, G) = some (v, G') → ∃ nu', NK I.1 G nu' G' ∧ IV nu' (g_n G') v Z := by
    intro Z e hs
    injection hs with hs
    injection hs with e1 e2
    subst e1; subst e2; subst e
    exact ⟨I.1, nk_refl hg, hy⟩
  cases c0 : veq x y
  · rw [c0, cond_false] at hs
    cases a0 : Nat.beq a 0
    · rw [a0, cond_false] at hs
      replace hs := bif_some hs
      obtain ⟨a1, hs⟩ := hs
      have a1 := beqt a1
      have goal : ∃ nu', NK I.1 G nu' G' ∧ IV nu' (g_n G') v (if Y < X then Y else X) := by
        cases c1 : Nat.ble (itv G x).2 (itv G y).1
        · rw [c1, cond_false] at hs
          cases c2 : Nat.ble (itv G y).2 (itv G x).1
          · rw [c2, cond_false] at hs
            obtain ⟨nu', m1, m2, m3, m4⟩ := y_memo_ok (k := 41) (tg := 1) (w := i2n (if Y < X then Y else X)) (f := none) (lo := nmin (itv G x).1 (itv G y).1) (hi := nmin (itv G x).2 (itv G y).2) hg hx.2.1 hy.2.1 (by
              unfold OpR
              rw [i_min, hxv, hyv]
              exact Or.inr (Or.inr (Or.inr (Or.inr (Or.inr (Or.inr (Or.inr (Or.inr (Or.inl ⟨rfl, rfl⟩))))))))) (by rw [nmin_eq, i_min]; omega) (by rw [nmin_eq, i_min]; omega) (fun g hg => by cases hg) (Or.inl rfl)
            generalize y_memo 41 x y 1 (nmin (itv G x).1 (itv G y).1) (nmin (itv G x).2 (itv G y).2) none G = M at hs m1 m2 m3 m4
            split at hs
            · rename_i G1 h1
              split at hs
              · rename_i G2 h2
                injection hs with hs
                injection hs with e1 e2
                subst e1; subst e2
                have ox := okn_nk hx.2.1 m1
                have oy := okn_nk hy.2.1 m1
                have vx := sval_ag hx.2.1 m1.2.1
                have vy := sval_ag hy.2.1 m1.2.1
                have k1 := y_fact_some m1.1 m2 ox (by rw [m3, vx, i_min]; omega) h1
                have k2 := y_fact_some k1.1 (okn_nk m2 k1) (okn_nk oy k1) (by rw [m3, vy, i_min]; omega) h2
                have k12 := nk_trans k1 k2
                exact ⟨nu', nk_trans m1 k12, by unfold isI; rw [m4]; rfl, okn_nk m2 k12, m3.symm⟩
              · cases hs
            · cases hs
          · rw [c2, cond_true] at hs
            have c2 := blet c2
            refine same2 ?_ hs
            refine i2n_inj ?_
            rw [i_min]
            omega
        · rw [c1, cond_true] at hs
          have c1 := blet c1
          refine same ?_ hs
          refine i2n_inj ?_
          rw [i_min]
          omega
      obtain ⟨nu', k1, k2⟩ := goal
      exact ⟨nu', k1, Or.inr ⟨a1, k2⟩⟩
    · rw [a0, cond_true] at hs
      have a0 := beqt a0
      have goal : ∃ nu', NK I.1 G nu' G' ∧ IV nu' (g_n G') v (if X < Y then Y else X) := by
        cases c1 : Nat.ble (itv G y).2 (itv G x).1
        · rw [c1, cond_false] at hs
          cases c2 : Nat.ble (itv G x).2 (itv G y).1
          · rw [c2, cond_false] at hs
            obtain ⟨nu', m1, m2, m3, m4⟩ := y_memo_ok (k := 40) (tg := 1) (w := i2n (if X < Y then Y else X)) (f := none) (lo := nmax (itv G x).1 (itv G y).1) (hi := nmax (itv G x).2 (itv G y).2) hg hx.2.1 hy.2.1 (by
              unfold OpR
              rw [i_max, hxv, hyv]
              exact Or.inr (Or.inr (Or.inr (Or.inr (Or.inr (Or.inr (Or.inr (Or.inl ⟨rfl, rfl⟩)))))))) (by rw [nmax_eq, i_max]; omega) (by rw [nmax_eq, i_max]; omega) (fun g hg => by cases hg) (Or.inl rfl)
            generalize y_memo 40 x y 1 (nmax (itv G x).1 (itv G y).1) (nmax (itv G x).2 (itv G y).2) none G = M at hs m1 m2 m3 m4
            split at hs
            · rename_i G1 h1
              split at hs
              · rename_i G2 h2
                injection hs with hs
                injection hs with e1 e2
                subst e1; subst e2
                have ox := okn_nk hx.2.1 m1
                have oy := okn_nk hy.2.1 m1
                have vx := sval_ag hx.2.1 m1.2.1
                have vy := sval_ag hy.2.1 m1.2.1
                have k1 := y_fact_some m1.1 ox m2 (by rw [m3, vx, i_max]; omega) h1
                have k2 := y_fact_some k1.1 (okn_nk oy k1) (okn_nk m2 k1) (by rw [m3, vy, i_max]; omega) h2
                have k12 := nk_trans k1 k2
                exact ⟨nu', nk_trans m1 k12, by unfold isI; rw [m4]; rfl, okn_nk m2 k12, m3.symm⟩
              · cases hs
            · cases hs
          · rw [c2, cond_true] at hs
            have c2 := blet c2
            refine same2 ?_ hs
            refine i2n_inj ?_
            rw [i_max]
            omega
        · rw [c1, cond_true] at hs
          have c1 := blet c1
          refine same ?_ hs
          refine i2n_inj ?_
          rw [i_max]
          omega
      obtain ⟨nu', k1, k2⟩ := goal
      exact ⟨nu', k1, Or.inl ⟨a0, k2⟩⟩
  · rw [c0, cond_true] at hs
    have e := veq_ok c0
    subst e
    have e : X = Y := i2n_inj (by omega)
    subst e
    obtain ⟨nu', k1, k2⟩ := same rfl hs
    have e0 : ∀ c : Prop, [Decidable c] → (if c then X else X) = X := fun c _ => by split <;> rfl
    rcases ha with a0 | a0
    · exact ⟨nu', k1, Or.inl ⟨a0, by rw [e0]; exact k2⟩⟩
    · exact ⟨nu', k1, Or.inr ⟨a0, by rw [e0]; exact k2⟩⟩
theorem math0 (L : LV) (X Y : Int32) (R : List Value) (h : AH) : s_math 0 L (.int Y :: .int X :: R) h = if am_w R ≤ 8 then nx L (.int (if X < Y then Y else X) :: R) h else none := rfl
theorem math1 (L : LV) (X Y : Int32) (R : List Value) (h : AH) : s_math 1 L (.int Y :: .int X :: R) h = if am_w R ≤ 8 then nx L (.int (if Y < X then Y else X) :: R) h else none := rfl
theorem math2 (L : LV) (X : Int32) (R : List Value) (h : AH) : s_math 2 L (.int X :: R) h = if am_w R ≤ 8 then nx L (.int (if 0 ≤ X then X else 0 - X) :: R) h else none := rfl
theorem i_abs (X : Int32) : (2147483648 ≤ i2n X → (if 0 ≤ X then X else 0 - X) = X) ∧ (i2n X < 2147483648 → i2n (if 0 ≤ X then X else 0 - X) = (8589934592 - i2n X) % 4294967296) := by
  have h0 : i2n (0 : Int32) = 2147483648 := c_0
  constructor
  · intro e
    rw [if_pos ((i_le 0 X).mpr (by omega))]
  · intro e
    rw [if_neg (fun q => by have := (i_le 0 X).mp q; omega), kb_sub, h0]
theorem Y_math0_ok (ha : a < 3) (hR : RM B I G h) (hK : KN lv) (hL : LVM I (g_h G).length (g_n G) lv L) (hS : LM I (g_h G).length (g_n G) st S) (hs : Y_math0 a lv st G = some os) : Cc B I G h os (s_math a L S h) := by
  unfold Y_math0 at hs
  cases a2 : Nat.beq a 2
  · rw [a2, cond_false] at hs
    have a2 := beqf a2
    split at hs
    · rename_i y x r
      obtain ⟨V, R1, rfl, g1, g2⟩ := lm_cons hS
      obtain ⟨U, R2, rfl, g3, g4⟩ := lm_cons g2
      replace hs := bif_some hs
      obtain ⟨f0, hs⟩ := hs
      obtain ⟨f0, f1⟩ := and2 f0
      obtain ⟨f0, f2⟩ := and2 f0
      obtain ⟨X, rfl, hx⟩ := sv_int g3 f0
      obtain ⟨Y, rfl, hy⟩ := sv_int g1 f2
      split at hs
      · rename_i q hq
        obtain ⟨nu', k1, k2⟩ := mm_ok (v := q.1) (G' := q.2) (by omega) hR.1 hx hy hq
        have hw : am_w R2 ≤ 8 := by rw [lm_w g4]; exact blet f1
        rcases k2 with ⟨e, k2⟩ | ⟨e, k2⟩
        · rw [e, math0, if_pos hw]
          exact c_nx hs (pn_nk hR hK hL g4 k1 (sv_of_int k2))
        · rw [e, math1, if_pos hw]
          exact c_nx hs (pn_nk hR hK hL g4 k1 (sv_of_int k2))
      · cases hs
    · cases hs
  · rw [a2, cond_true] at hs
    have a2 := beqt a2
    subst a2
    split at hs
    · rename_i x r
      obtain ⟨V, R1, rfl, g1, g2⟩ := lm_cons hS
      replace hs := bif_some hs
      obtain ⟨f0, hs⟩ := hs
      obtain ⟨f0, f1⟩ := and2 f0
      obtain ⟨X, rfl, hx⟩ := sv_int g1 f0
      have hw : am_w R1 ≤ 8 := by rw [lm_w g2]; exact blet f1
      have b := itv_ok hR.1.1 x
      rw [← hx.2.2] at b
      have hlt := i2n_lt X
      obtain ⟨q1, q2⟩ := i_abs X
      rw [math2, if_pos hw]
      have ho : OpR 42 (sval I.1 x) (sval I.1 snull) (i2n (if 0 ≤ X then X else 0 - X)) := Or.inr (Or.inr (Or.inr (Or.inr (Or.inr (Or.inr (Or.inr (Or.inr (Or.inr ⟨rfl, X, hx.2.2, rfl⟩))))))))
      dsimp only at hs
      cases c1 : Nat.ble 2147483648 (itv G x).1
      · rw [c1, cond_false] at hs
        cases c2 : Nat.ble 1 (itv G x).1
        · rw [c2, cond_false] at hs
          have h9 := i2n_lt (if 0 ≤ X then X else 0 - X)
          obtain ⟨nu', k1, k2⟩ := memo_i (Z := if 0 ≤ X then X else 0 - X) (v := (y_memo 42 x snull 1 0 4294967295 none G).1) (G' := (y_memo 42 x snull 1 0 4294967295 none G).2) hR.1 hx.2.1 snull_okn ho (Nat.zero_le _) (by omega) (fun g hg => by cases hg) rfl
          exact c_nx hs (pn_nk hR hK hL g2 k1 (sv_of_int k2))
        · rw [c2, cond_true] at hs
          have c2 := blet c2
          have m1 := nmax_l (itv G x).2 (4294967296 - (itv G x).1)
          have m2 := nmax_r (itv G x).2 (4294967296 - (itv G x).1)
          have h9 : 2147483648 ≤ i2n (if 0 ≤ X then X else 0 - X) ∧ i2n (if 0 ≤ X then X else 0 - X) ≤ nmax (itv G x).2 (4294967296 - (itv G x).1) := by
            by_cases e : 2147483648 ≤ i2n X
            · rw [q1 e]; omega
            · rw [q2 (by omega)]; omega
          obtain ⟨nu', k1, k2⟩ := memo_i (Z := if 0 ≤ X then X else 0 - X) (v := (y_memo 42 x snull 1 2147483648 (nmax (itv G x).2 (4294967296 - (itv G x).1)) none G).1) (G' := (y_memo 42 x snull 1 2147483648 (nmax (itv G x).2 (4294967296 - (itv G x).1)) none G).2) hR.1 hx.2.1 snull_okn ho h9.1 h9.2 (fun g hg => by cases hg) rfl
          exact c_nx hs (pn_nk hR hK hL g2 k1 (sv_of_int k2))
      · rw [c1, cond_true] at hs
        have c1 := blet c1
        rw [q1 (by omega)]
        exact c_nx hs (pn_id hR hK hL ⟨g1, g2⟩)
    · cases hs
theorem mf_abs_mem {x : SV} : ∀ {l : List (Bool × SG)} {os : List SOUT}, mf_abs lv r x l = some os → ∀ q, q ∈ l → ∃ p, (bif q.1 then y_bin 1 (sk 2147483648) x q.2 else some (x, q.2)) = some p ∧ .inl (none, lv, p.1 :: r, p.2) ∈ os := by
  intro l
  induction l with
  | nil => intro os _ q hq; cases hq
  | cons z t ih =>
    intro os hs q hq
    rw [mf_abs] at hs
    split at hs
    · cases hs
    · rename_i p hp
      split at hs
      · cases hs
      · rename_i o ho
        cases hs
        rcases List.mem_cons.mp hq with rfl | hq
        · exact ⟨p, hp, List.mem_cons_self⟩
        · obtain ⟨p2, h1, h2⟩ := ih ho q hq
          exact ⟨p2, h1, List.mem_cons_of_mem _ h2⟩
theorem Y_mathF_ok (ha : a < 3) (hR : RM B I G h) (hK : KN lv) (hL : LVM I (g_h G).length (g_n G) lv L) (hS : LM I (g_h G).length (g_n G) st S) (hs : Y_mathF a lv st G = some os) : Cc B I G h os (s_math a L S h) := by
  unfold Y_mathF at hs
  cases a2 : Nat.beq a 2
  · rw [a2, cond_false] at hs
    have a2 := beqf a2
    split at hs
    · rename_i y x r
      obtain ⟨V, R1, rfl, g1, g2⟩ := lm_cons hS
      obtain ⟨U, R2, rfl, g3, g4⟩ := lm_cons g2
      replace hs := bif_some hs
      obtain ⟨f0, hs⟩ := hs
      obtain ⟨f0, f1⟩ := and2 f0
      obtain ⟨f0, f2⟩ := and2 f0
      obtain ⟨X, rfl, hx⟩ := sv_int g3 f0
      obtain ⟨Y, rfl, hy⟩ := sv_int g1 f2
      have hw : am_w R2 ≤ 8 := by rw [lm_w g4]; exact blet f1
      obtain ⟨q, q1, q2, q3⟩ := y_lt_ok (x := x) (y := y) true false hR.1 hx.2.1 hy.2.1
      rw [← hx.2.2, ← hy.2.2] at q2
      have e := Option.some.inj hs
      have hg := gr_nk (I := I) (nu' := I.1) q3
      have hxv : SVm I (g_h q.2).length (g_n q.2) x (.int X) := sv_gr hg g3
      have hyv : SVm I (g_h q.2).length (g_n q.2) y (.int Y) := sv_gr hg g1
      have fin : ∀ {w : SV} {Z : Int32}, (bif Nat.beq a 0 then (bif q.1 then y else x) else (bif q.1 then x else y)) = w → SVm I (g_h q.2).length (g_n q.2) w (.int Z) → Cc B I G h os (nx L (.int Z :: R2) h) := fun {w Z} hw hv => by
        refine ⟨.inl (none, lv, w :: r, q.2), ?_, I, .inl (none, L, .int Z :: R2, h), rfl, rfl, hg, rm_nk' hR q3, hK, lvm_gr hg hL, hv, lm_gr hg g4⟩
        rw [← e, ← hw]
        exact List.mem_map.mpr ⟨q, q1, rfl⟩
      by_cases hlt : X < Y
      · rw [if_pos ((i_lt X Y).mp hlt)] at q2
        rw [q2, cond_true, cond_true] at fin
        rcases (show a = 0 ∨ a = 1 by omega) with a0 | a0
        · subst a0
          rw [math0, if_pos hw, if_pos hlt]
          exact fin rfl hyv
        · subst a0
          rw [math1, if_pos hw, if_neg (fun e => by rw [i_lt] at hlt e; omega)]
          exact fin rfl hxv
      · rw [if_neg (fun e => hlt ((i_lt X Y).mpr e))] at q2
        rw [q2, cond_false, cond_false] at fin
        rcases (show a = 0 ∨ a = 1 by omega) with a0 | a0
        · subst a0
          rw [math0, if_pos hw, if_neg hlt]
          exact fin rfl hxv
        · subst a0
          rw [math1, if_pos hw]
          by_cases hyx : Y < X
          · rw [if_pos hyx]
            exact fin rfl hyv
          · have exy : X = Y := i2n_inj (by rw [i_lt] at hlt hyx; omega)
            rw [if_neg hyx, exy]
            exact fin rfl hyv
    · cases hs
  · rw [a2, cond_true] at hs
    have a2 := beqt a2
    subst a2
    split at hs
    · rename_i x r
      obtain ⟨V, R1, rfl, g1, g2⟩ := lm_cons hS
      replace hs := bif_some hs
      obtain ⟨f0, hs⟩ := hs
      obtain ⟨f0, f1⟩ := and2 f0
      obtain ⟨X, rfl, hx⟩ := sv_int g1 f0
      have hw : am_w R1 ≤ 8 := by rw [lm_w g2]; exact blet f1
      obtain ⟨q, q1, q2, q3⟩ := y_lt_ok (x := x) (y := sk 2147483648) true false hR.1 hx.2.1 sk_okn
      rw [← hx.2.2, sk_val] at q2
      obtain ⟨p, p1, p2⟩ := mf_abs_mem hs q q1
      have hR2 := rm_nk' hR q3
      rw [math2, if_pos hw]
      by_cases h0 : i2n X < 2147483648
      · rw [if_pos h0] at q2
        rw [q2, cond_true] at p1
        have hx2 : IV I.1 (g_n q.2) x X := ⟨hx.1, okn_nk hx.2.1 q3, hx.2.2⟩
        obtain ⟨nu', Y, y1, y2, y3⟩ := y_bin_ok (nu := I.1) hR2.1 (sk_IV c_0) hx2 p1
        have eY : 0 - X = Y := Option.some.inj y1
        rw [if_neg (fun q => by have := (i_le 0 X).mp q; rw [c_0] at this; omega), eY]
        have hg1 := gr_nk (I := I) (nu' := I.1) q3
        have hg2 := gr_nk (I := I) (nu' := nu') y2
        have hg := gr_trans hg1 hg2
        exact ⟨.inl (none, lv, p.1 :: r, p.2), p2, (nu', I.2), .inl (none, L, .int Y :: R1, h), rfl, rfl, hg, rm_nk hR2 y2, hK, lvm_gr hg hL, sv_of_int y3, lm_gr hg g2⟩
      · rw [if_neg h0] at q2
        rw [q2, cond_false] at p1
        cases p1
        have hg := gr_nk (I := I) (nu' := I.1) q3
        rw [if_pos ((i_le 0 X).mpr (by rw [c_0]; omega))]
        exact ⟨.inl (none, lv, x :: r, q.2), p2, I, .inl (none, L, .int X :: R1, h), rfl, rfl, hg, hR2, hK, lvm_gr hg hL, sv_gr hg g1, lm_gr hg g2⟩
    · cases hs
theorem Y_math_ok (ha : a < 3) (hR : RM B I G h) (hK : KN lv) (hL : LVM I (g_h G).length (g_n G) lv L) (hS : LM I (g_h G).length (g_n G) st S) (hs : Y_math a lv st G = some os) : Cc B I G h os (s_math a L S h) := by
  unfold Y_math at hs
  cases hm : mfork
  · rw [hm, cond_false] at hs
    exact Y_math0_ok ha hR hK hL hS hs
  · rw [hm, cond_true] at hs
    exact Y_mathF_ok ha hR hK hL hS hs
end
