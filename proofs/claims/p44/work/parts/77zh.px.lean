section
/-! ===== the planner: the class's plan, tour, miles ===== -/
theorem px_f : (((fks 8).contains 10 = true ∧ fpos 8 = 12) ∧ ((fks 6).contains 10 = true ∧ fpos 6 = 10)) ∧ (((cdm 10 = 0 ∧ cdk 10 = 10) ∧ (cdm 8 = 0 ∧ cdk 8 = 8)) ∧ (3 ≤ mL 125 ∧ (3 ≤ mL 137 ∧ 2 ≤ mL 141))) := by decide +kernel
noncomputable def tO (r : List Nat) (k : Nat) : Int32 := match r[k]? with
  | some j => nI j
  | none => Int32.ofInt (-1)
noncomputable def slA (x : Nat × Nat × Nat) (a : Nat) : Nat := if a = 0 then x.1 else if a = 1 then x.2.1 else x.2.2
noncomputable def PnV (m : Nat) : Int32 := if m < 1000000 then nI m else Int32.ofInt (-3)
/-- a plan for so many LORRIES: the least miles, the sets -/
noncomputable def PnB (n : Nat) (hw : Nat → Nat) (on : Nat → Nat → Nat) (rc nl m : Nat) (x : Nat × Nat × Nat) : Prop := (0 < nl ∧ nl ≤ 3) ∧ BsW (smS n hw on rc) nl n (nl ^ (n - 1)) m x
noncomputable def PnR (n : Nat) (hw : Nat → Nat) (on : Nat → Nat → Nat) (rc : Nat) (nn y : Int32) : Prop := (txW nn (Int32.ofInt 1) (Int32.ofInt 3) = 0 ∧ y = Int32.ofInt (-2)) ∨ ∃ nl m x, (nn = nI nl ∧ PnB n hw on rc nl m x) ∧ y = PnV m
noncomputable def TrB (nn lo ii : Int32) : Prop := txW nn (Int32.ofInt 1) (Int32.ofInt 3) = 0 ∨ (txW lo (Int32.ofInt 0) (nn - Int32.ofInt 1) = 0 ∨ ii < 0)
noncomputable def TrR (n : Nat) (hw : Nat → Nat) (on : Nat → Nat → Nat) (rc : Nat) (nn lo ii y : Int32) : Prop := (TrB nn lo ii ∧ y = Int32.ofInt (-2)) ∨ ∃ nl m x, (nn = nI nl ∧ PnB n hw on rc nl m x) ∧ ∃ a i, ((lo = nI a ∧ a < nl) ∧ (ii = nI i ∧ i < 2147483648)) ∧ y = if m < 1000000 then tO (gg n hw on 6 (slA x a)) i else Int32.ofInt (-3)
noncomputable def MiB (nn lo : Int32) : Prop := txW nn (Int32.ofInt 1) (Int32.ofInt 3) = 0 ∨ txW lo (Int32.ofInt 0) (nn - Int32.ofInt 1) = 0
noncomputable def MiR (n : Nat) (hw : Nat → Nat) (on : Nat → Nat → Nat) (rc : Nat) (nn lo y : Int32) : Prop := (MiB nn lo ∧ y = Int32.ofInt (-2)) ∨ ∃ nl m x, (nn = nI nl ∧ PnB n hw on rc nl m x) ∧ ∃ a, (lo = nI a ∧ a < nl) ∧ y = if m < 1000000 then nI (smS n hw on rc (slA x a)) else Int32.ofInt (-3)
section
variable {σ : Nat → Nat} {ad : AD} {h h1 h' : AH} {np n T ox m t i j qp ql x y S p q q' a : Nat} {ex ho : Nat → Nat → Prop} {Q : Option Value → AH → Prop} {tl : List (Nat × AI)} {L : LV} {St : List Value} {M pc b : Nat} {c : Int} {hw : Nat → Nat} {on : Nat → Nat → Nat} {rc nl w : Nat} {sm f : Nat → Nat} {d : Nat → TPD} {tk : Nat → TKD} {sz : Nat → Int32} {pf nn lo ii : Int32} {xx : Nat × Nat × Nat}
theorem pla_keep (o : ∀ c' i' p' W, (29 ≤ c' ∧ c' ≤ 33) ∨ (c' = 8 ∧ p' = 2) → At ad h c' i' p' W → At ad h' c' i' p' W) (hA : PlA ad h n hw on rc nl m xx) : PlA ad h' n hw on rc nl m xx := by
  obtain ⟨⟨⟨a1, a2⟩, a3⟩, a4, a5, a6⟩ := hA
  exact ⟨⟨⟨lgs_keep (fun c' i' p' W hc ha => o _ _ _ _ (by omega) ha) a1, fun S j h1 h2 h3 => o _ _ _ _ (by omega) (a2.1 S j h1 h2 h3), fun j h1 h2 h3 => o _ _ _ _ (by omega) (a2.2 j h1 h2 h3)⟩, fun S h1 => o _ _ _ _ (by omega) (a3 S h1)⟩, o _ _ _ _ (by omega) a4, fun e => ⟨o _ _ _ _ (by omega) (a5 e).1, o _ _ _ _ (by omega) (a5 e).2.1, o _ _ _ _ (by omega) (a5 e).2.2⟩, a6⟩
theorem pd_lgb (hD : PD ad h n T tk d sz) : LgB n (hwD n T tk d) (onD n T tk d sz) := ⟨fun i => hwD_top i, fun i j hj => onD_top hD.1.2.1 i j hj⟩
theorem hwD_6 (hn : n ≤ 6) : hwD n T tk d 6 = 0 := by
  unfold hwD
  rw [if_neg (by omega)]
theorem X_hasPlan (hT : TS ad h np ex ho) (hqp : ad 8 0 = some qp) (hD : PD ad h n T tk d sz) (hq4 : LsQ ad h ql 4 T) (h6 : At ad h 29 0 6 (.int (nI 0))) (hrc : At ad h 8 0 1 (.int (nI rc))) (hrl : rc < 1000000) (hn0 : 0 < nl) (hn3 : nl ≤ 3) (hpf : At ad h 8 0 3 (.int pf)) (hc : pf = nI nl → ∃ m xx, PlA ad h n (hwD n T tk d) (onD n T tk d sz) rc nl m xx) (hk : ∀ h2 m xx, TS ad h2 np ex ho → Frm ad h h2 → PlA ad h2 n (hwD n T tk d) (onD n T tk d sz) rc nl m xx → At ad h2 8 0 3 (.int (nI nl)) → Q (some (.int (if m < 1000000 then 1 else 0))) h2) : Rt σ 125 (codeOf 125) (am_args 0 [.ref qp, .int (nI nl), .ref ql]) [] h Q := by
  obtain ⟨⟨⟨⟨-, f47, f47'⟩, -⟩, -⟩, ⟨⟨f66, f66'⟩, -⟩, -, f66d⟩ := pc_f
  obtain ⟨⟨-, -, s90⟩, s91, s92⟩ := pc_sb
  obtain ⟨-, ⟨-, -, m126⟩, m131, m134⟩ := pc_ml
  obtain ⟨⟨⟨m8, k8⟩, -⟩, ⟨⟨t82, t83⟩, -⟩, g8, -⟩ := pl_c
  have n6 : n ≤ 6 := hD.1.1.1.1.1
  have hB := pd_lgb hD
  have h60 := hwD_6 (T := T) (tk := tk) (d := d) n6
  have x8 : ∀ {h'}, TS ad h' np ex ho → ∃ vp, h'.1 qp = some (8, vp) := fun {h'} hT' => by
    obtain ⟨v0, a0, -⟩ := fld hT' (by omega) m8 t82 hqp
    obtain ⟨vs, r1, -⟩ := at_kind hT'.1 (by omega) (by omega) a0 hqp
    rw [k8] at r1
    exact ⟨vs, r1⟩
  have fin : ∀ (h2 : AH) (m : Nat) (xx : Nat × Nat × Nat) (L : LV), TS ad h2 np ex ho → Frm ad h h2 → PlA ad h2 n (hwD n T tk d) (onD n T tk d sz) rc nl m xx → At ad h2 8 0 3 (.int (nI nl)) → lv_get 0 L = some (.ref qp) → Rt σ 125 (jump 125 27) L [] h2 Q := fun h2 m xx L hT2 hF2 hA2 hp2 l0 => by
    have hm1 := bw_top hA2.2.2.2
    have hkk := hk h2 m xx hT2 hF2 hA2 hp2
    rw [j125_27]
    refine rl_load l0 rfl (ra_get hT2.1 (by omega) (by omega) hqp (by rw [f47']; exact hA2.2.1) (by rw [k8]; exact f47) (rl_const ?_))
    by_cases e : m < 1000000
    · rw [if_pos e] at hkk
      refine rl_icmpF (by show some (decide (nI 1000000 ≤ nI m)) = some false; rw [decide_eq_false (by rw [tx_le (by omega) (by omega)]; omega)]) (rl_const (rl_goto ?_))
      show Rt σ 125 (jump 125 41) _ _ _ _
      rw [j125_41]
      exact rl_ret4 (Or.inr rfl) hkk
    · rw [if_neg e] at hkk
      refine rl_icmpT (by show some (decide (nI 1000000 ≤ nI m)) = some true; rw [decide_eq_true ((tx_le (by omega) (by omega)).mpr (by omega))]) ?_
      show Rt σ 125 (jump 125 40) _ _ _ _
      rw [j125_40, j125_41]
      exact rl_const (rl_ret4 (Or.inl rfl) hkk)
  rw [head_125]
  refine rl_load rfl rfl (ra_get hT.1 (by omega) (by omega) hqp (by rw [f66']; exact hpf) (by rw [k8]; exact f66) (rl_load rfl rfl ?_))
  by_cases e : pf = nI nl
  · obtain ⟨m, xx, hA⟩ := hc e
    refine rl_icmpT (by show some (decide (pf = nI nl)) = some true; rw [decide_eq_true e]) ?_
    rw [e] at hpf
    exact fin h m xx _ hT frm_refl hA hpf rfl
  · obtain ⟨v1, x1⟩ := x8 hT
    refine rl_icmpF (by show some (decide (pf = nI nl)) = some false; rw [decide_eq_false e]) (rl_load rfl rfl (rl_load rfl rfl (rl_callv (as := [.ref ql]) (r := []) s90 rfl rfl x1 (by show 0 ≤ 8; omega) (ref2_ok m126) (X_legs hT hqp hD hq4 h6 fun h2 hT2 hF2 hL2 => ?_))))
    obtain ⟨v2, x2⟩ := x8 hT2
    have hl2 : LsP ad h2 n := lsp_frm hF2 hD.1.1.1.2.1
    refine rl_load rfl rfl (rl_callv (as := []) (r := []) s91 rfl rfl x2 (by show 0 ≤ 8; omega) (ref_ok m131) (X_sets hT2 hqp hl2 n6 hB h60 hL2 (hF2.1 _ _ _ _ (fun f => by unfold XP at f; omega) hrc) hrl fun h3 hT3 hF3 hL3 hR3 hM3 => ?_))
    obtain ⟨v3, x3⟩ := x8 hT3
    refine rl_load rfl rfl (rl_load rfl rfl (rl_callv (as := [.int (nI nl)]) (r := []) s92 rfl rfl x3 (by show 0 ≤ 8; omega) (two_ok m134) (X_share hT3 hqp (lsp_frm hF3 hl2) n6 hB h60 hL3 hR3 hM3 hn0 hn3 fun h4 m xx hT4 hF4 hA4 => ?_)))
    refine rl_load rfl rfl (rl_load rfl rfl (rl_pput hT4 (by omega) m8 (by omega) g8 t83 hqp (by rw [k8]; exact f66) f66' f66d (by rw [nI_ok (by omega)]; omega) fun h5 hT5 hO5 => ?_))
    exact fin h5 m xx _ hT5 (frm_trans hF2 (frm_trans hF3 (frm_trans hF4 (frm_one hO5 (Or.inr (Or.inr (Or.inl ⟨rfl, Or.inr rfl⟩))))))) (pla_keep (fun c' i' p' W hc ha => hO5.1.2 c' i' p' W (fun f => by omega) ha) hA4) hO5.1.1 rfl
theorem X_setOf (hT : TS ad h np ex ho) (hqp : ad 8 0 = some qp) (ha : a < 3) {v : Int32} (hx : At ad h 33 0 a (.int v)) (hQ : Q (some (.int v)) h) : Rt σ 138 (codeOf 138) (am_args 0 [.ref qp, .int (nI a)]) [] h Q := by
  obtain ⟨⟨-, -, ⟨f64, f64'⟩, -⟩, -⟩ := pc_f
  obtain ⟨⟨-, -, t8, -⟩, -⟩ := pl_t
  rw [head_138]
  refine rl_load rfl rfl (rl_const (rl_const (within_ok (by show 0 ≤ 8; omega) ?_)))
  have e : txW (nI a) (Int32.ofInt 0) (Int32.ofInt 2) = 1 := by
    unfold txW
    rw [if_pos ⟨(tx_le (a := 0) (by omega) (by omega)).mpr (by omega), (tx_le (b := 2) (by omega) (by omega)).mpr (by omega)⟩]
  rw [e]
  refine rl_ifF rfl (rl_load rfl rfl (ra_prow hT hqp (by rw [f64']; exact t8) f64 fun q33 hq33 => rl_load rfl rfl (ra_ald hT.1 (by omega) (by rw [pr_33.1.1.2]; omega) hq33 hx (by rw [pr_33.1.1.2]; rfl) (by omega) (rl_goto ?_))))
  show Rt σ 138 (jump 138 19) _ _ _ _
  rw [j138_19]
  exact rl_ret1 hQ
theorem X_taskOf (hT : TS ad h np ex ho) (hqp : ad 8 0 = some qp) (hl : LsP ad h n) (hn : n ≤ 6) (hB : LgB n hw on) (h6 : hw 6 = 0) (hL : LgS ad h n hw on n n 0) (hR : RmS ad h n hw on (2 ^ n) 0) (ha : a < 3) (hx : At ad h 33 0 a (.int (nI S))) (hS : S < 2 ^ n) (hlt : LL n hw on 6 S < 1000000) (hi : i < 2147483648) (hQ : Q (some (.int (tO (gg n hw on 6 S) i))) h) : Rt σ 137 (codeOf 137) (am_args 0 [.ref qp, .int (nI a), .int (nI i)]) [] h Q := by
  obtain ⟨⟨s103, -⟩, -⟩ := pc_sb.1
  obtain ⟨-, -, s102⟩ := pc_sa.2
  obtain ⟨-, -, m138⟩ := pc_ml.1.2
  obtain ⟨⟨m139, -⟩, -⟩ := pc_ml.2.1
  obtain ⟨⟨-, -, c8m, c8⟩, -⟩ := bd_c.1
  have b64 := bq_lt n (by omega)
  have hl0 := hl
  obtain ⟨q7, mc, ed, a1, -⟩ := hl
  obtain ⟨vp, xp, -⟩ := at_kind hT.1 (by omega) (by omega) a1 hqp
  rw [c8] at xp
  have loop : ∀ (k' k p S : Nat) (L : LV), k + k' = i → (p < n ∨ p = 6) → S < 2 ^ n → LL n hw on p S < 1000000 → Q (some (.int (tO (gg n hw on p S) k'))) h → lv_get 0 L = some (.ref qp) → lv_get 2 L = some (.int (nI i)) → lv_get 3 L = some (.int (nI p)) → lv_get 4 L = some (.int (nI S)) → lv_get 5 L = some (.int (nI k)) → Rt σ 137 (jump 137 13) L [] h Q := by
    intro k'
    induction k' with
    | zero =>
      intro k p S L hk hp hS' hlt' hQ' l0 l2 l3 l4 l5
      have ek : k = i := by omega
      subst ek
      rw [j137_13]
      refine rl_load l5 rfl (rl_load l2 rfl (rl_icmpF (by show some (decide (nI k < nI k)) = some false; rw [decide_eq_false (by rw [tx_lt hi hi]; omega)]) (rl_load l4 rfl ?_)))
      by_cases e : S = 0
      · subst e
        refine rl_ifT rfl ?_
        show Rt σ 137 (jump 137 61) _ _ _ _
        rw [j137_61]
        rw [gg_0] at hQ'
        exact rl_const (rl_ret1 hQ')
      · have nz : ¬ nI S = 0 := fun f => e (nI_eqn (by omega) (by omega) f)
        have hlo := lo_of (S := S) (p := p) hL ⟨fun S' j h1 h2 h3 => hR.1 S' j (by omega) h2 h3, fun j h1 => absurd h1 (Nat.not_lt_zero _)⟩ h6 hp
        rw [gg_s e] at hQ'
        refine rl_ifF (by show some (decide (nI S = 0)) = some false; rw [decide_eq_false nz]) (rl_load l0 rfl (rl_load l3 rfl (rl_load l4 rfl (rl_callv (as := [.int (nI p), .int (nI S)]) (r := []) s103 rfl rfl xp (by show 0 ≤ 8; omega) (three_ok m139) (X_leastBest hT hqp hl0 hn hB hlo (by omega) (by omega) e hlt' (rl_store rfl (rl_load (get_put rfl rfl (by omega) l5) rfl (rl_load (get_put rfl rfl (by omega) l2) rfl (rl_icmpT (by show some (decide (nI k = nI k)) = some true; rw [decide_eq_true rfl]) ?_)))))))))
        show Rt σ 137 (jump 137 43) _ _ _ _
        rw [j137_43]
        exact rl_load (v := .int (nI (lbJ n hw on p S))) rfl rfl (rl_ret1 hQ')
    | succ k' ih =>
      intro k p S L hk hp hS' hlt' hQ' l0 l2 l3 l4 l5
      rw [j137_13]
      refine rl_load l5 rfl (rl_load l2 rfl (rl_icmpF (by show some (decide (nI i < nI k)) = some false; rw [decide_eq_false (by rw [tx_lt (by omega) (by omega)]; omega)]) (rl_load l4 rfl ?_)))
      by_cases e : S = 0
      · subst e
        refine rl_ifT rfl ?_
        show Rt σ 137 (jump 137 61) _ _ _ _
        rw [j137_61]
        rw [gg_0] at hQ'
        exact rl_const (rl_ret1 hQ')
      · have nz : ¬ nI S = 0 := fun f => e (nI_eqn (by omega) (by omega) f)
        have hlo := lo_of (S := S) (p := p) hL ⟨fun S' j h1 h2 h3 => hR.1 S' j (by omega) h2 h3, fun j h1 => absurd h1 (Nat.not_lt_zero _)⟩ h6 hp
        obtain ⟨⟨k1, k2⟩, k3, -⟩ := lbJ_ok e hlt'
        have tp := two_pos (lbJ n hw on p S)
        rw [gg_s e] at hQ'
        refine rl_ifF (by show some (decide (nI S = 0)) = some false; rw [decide_eq_false nz]) (rl_load l0 rfl (rl_load l3 rfl (rl_load l4 rfl (rl_callv (as := [.int (nI p), .int (nI S)]) (r := []) s103 rfl rfl xp (by show 0 ≤ 8; omega) (three_ok m139) (X_leastBest hT hqp hl0 hn hB hlo (by omega) (by omega) e hlt' (rl_store rfl (rl_load (get_put rfl rfl (by omega) l5) rfl (rl_load (get_put rfl rfl (by omega) l2) rfl (rl_icmpF (by show some (decide (nI k = nI i)) = some false; rw [decide_eq_false (fun f => by have := nI_inj (by omega) hi f; omega)]) (rl_load (v := .int (nI (lbJ n hw on p S))) rfl rfl (rl_const (rl_icmpT ?_ ?_)))))))))))) 
        · show some (decide (¬ nI (lbJ n hw on p S) = Int32.ofInt (-1))) = some true
          rw [decide_eq_true]
          intro f
          have f2 := congrArg i2n f
          rw [nI_ok (by omega), cw_m1] at f2
          omega
        · show Rt σ 137 (jump 137 45) _ _ _ _
          rw [j137_45]
          have g3 : ∀ {z : Nat} {u : Value}, z ≠ 3 → u.category = 1 → lv_get z L = some u → lv_get z (lv_put 3 (.int (nI (lbJ n hw on p S))) L) = some u := fun {z u} hz hu hg => get_put hu rfl hz hg
          refine rl_load (g3 (by omega) rfl l4) rfl (rl_const (rl_load (v := .int (nI (lbJ n hw on p S))) rfl rfl (rl_bin rfl (rl_const (rl_bin rfl (rl_bin (z := nI (S - 2 ^ lbJ n hw on p S)) ?_ (rl_store rfl (rl_iinc (get_put rfl rfl (by omega) (g3 (by omega) rfl l5)) (rl_goto ?_)))))))))
          · show some (nI S &&& ((Int32.ofInt 1 <<< (nI (lbJ n hw on p S) &&& 31)) ^^^ Int32.ofInt (-1))) = some _
            rw [bq_rm S (by omega) _ (by omega) k2]
          · rw [nI_suc (by omega)]
            exact ih (k + 1) (lbJ n hw on p S) (S - 2 ^ lbJ n hw on p S) _ (by omega) (Or.inl k1) (by omega) (by omega) hQ' (get_put rfl rfl (by omega) (get_put rfl rfl (by omega) (g3 (by omega) rfl l0))) (get_put rfl rfl (by omega) (get_put rfl rfl (by omega) (g3 (by omega) rfl l2))) (get_put rfl rfl (by omega) (get_put rfl rfl (by omega) rfl)) (get_put rfl rfl (by omega) rfl) rfl
  rw [head_137]
  refine rl_const (rl_store rfl (rl_load rfl rfl (rl_load rfl rfl (rl_callv (as := [.int (nI a)]) (r := []) s102 rfl rfl xp (by show 0 ≤ 8; omega) (two_ok m138) (X_setOf hT hqp ha hx (rl_store rfl (rl_const (rl_store rfl ?_))))))))
  exact loop i 0 6 S _ (by omega) (Or.inr rfl) hS hlt hQ rfl rfl rfl rfl rfl
theorem pn_arg {nn : Int32} : txW nn (Int32.ofInt 1) (Int32.ofInt 3) = 0 ∨ (txW nn (Int32.ofInt 1) (Int32.ofInt 3) = 1 ∧ ∃ nl, nn = nI nl ∧ (0 < nl ∧ nl ≤ 3)) := by
  rcases txW_01 nn (Int32.ofInt 1) (Int32.ofInt 3) with e | e
  · exact Or.inl e
  · have h := txW_in e
    have c1 : i2n (Int32.ofInt 1) = 2147483649 := by decide +kernel
    have c3 : i2n (Int32.ofInt 3) = 2147483651 := by decide +kernel
    rw [c1, c3] at h
    exact Or.inr ⟨e, i2n nn - 2147483648, r5nI (by omega) (by omega), by omega, by omega⟩
theorem lo_arg (h0 : 0 < nl) (h3 : nl ≤ 3) : txW lo (Int32.ofInt 0) (nI nl - Int32.ofInt 1) = 0 ∨ (txW lo (Int32.ofInt 0) (nI nl - Int32.ofInt 1) = 1 ∧ ∃ a, lo = nI a ∧ a < nl) := by
  have e1 : nI nl - Int32.ofInt 1 = nI (nl - 1) := pk_sub (a := nl) (b := 1) h0
  rw [e1]
  rcases txW_01 lo (Int32.ofInt 0) (nI (nl - 1)) with e | e
  · exact Or.inl e
  · have h := txW_in e
    rw [show i2n (Int32.ofInt 0) = 2147483648 by decide +kernel, nI_ok (by omega)] at h
    exact Or.inr ⟨e, i2n lo - 2147483648, r5nI (by omega) (by omega), by omega⟩
/-- the state that the head gives, on the class's side -/
noncomputable def PlX (ad : AD) (h : AH) (n T : Nat) (tk : Nat → TKD) (d : Nat → TPD) (sz : Nat → Int32) (rc : Nat) : Prop := (PD ad h n T tk d sz ∧ (At ad h 29 0 6 (.int (nI 0)) ∧ (At ad h 8 0 1 (.int (nI rc)) ∧ rc < 1000000))) ∧ ∃ pf, At ad h 8 0 3 (.int pf) ∧ (pf = nI 0 ∨ ∃ nl m xx, (pf = nI nl ∧ (0 < nl ∧ nl ≤ 3)) ∧ PlA ad h n (hwD n T tk d) (onD n T tk d sz) rc nl m xx)
theorem plx_hc (hX : ∃ pf, At ad h 8 0 3 (.int pf) ∧ (pf = nI 0 ∨ ∃ nl m xx, (pf = nI nl ∧ (0 < nl ∧ nl ≤ 3)) ∧ PlA ad h n hw on rc nl m xx)) (h0 : 0 < nl) (h3 : nl ≤ 3) : ∃ pf, At ad h 8 0 3 (.int pf) ∧ (pf = nI nl → ∃ m xx, PlA ad h n hw on rc nl m xx) := by
  obtain ⟨pf, a1, a2⟩ := hX
  refine ⟨pf, a1, fun e => ?_⟩
  rcases a2 with a2 | ⟨nl', m, xx, ⟨a2, a3, a4⟩, a5⟩
  · have := nI_inj (by omega) (by omega) (a2.symm.trans e)
    omega
  · have := nI_inj (by omega) (by omega) (a2.symm.trans e)
    subst this
    exact ⟨m, xx, a5⟩
/-- behind a plan -/
noncomputable def PlE (ad : AD) (h h' : AH) (n T : Nat) (tk : Nat → TKD) (d : Nat → TPD) (sz : Nat → Int32) (rc : Nat) : Prop := Frm ad h h' ∧ PlX ad h' n T tk d sz rc
theorem plx_end {m : Nat} (hX : PlX ad h n T tk d sz rc) (hF : Frm ad h h') (h0 : 0 < nl) (h3 : nl ≤ 3) (hA : PlA ad h' n (hwD n T tk d) (onD n T tk d sz) rc nl m xx) (hp : At ad h' 8 0 3 (.int (nI nl))) : PlE ad h h' n T tk d sz rc := by
  obtain ⟨⟨a1, a2, a3, a4⟩, -⟩ := hX
  exact ⟨hF, ⟨pd_frm hF a1, hA.1.1.1.1, hF.1 _ _ _ _ (fun f => by unfold XP at f; omega) a3, a4⟩, nI nl, hp, Or.inr ⟨nl, m, xx, ⟨rfl, h0, h3⟩, hA⟩⟩
/-- of a set of THE PLAN -/
theorem pl_set {m : Nat} (hb : BsW (smS n hw on rc) nl n (nl ^ (n - 1)) m xx) (hlt : m < 1000000) (hrl : rc < 1000000) (ha : a < 3) : slA xx a < 2 ^ n ∧ LL n hw on 6 (slA xx a) < 1000000 := by
  rcases hb with ⟨b1, -⟩ | ⟨w, ⟨b1, b2, b3⟩, b4, -⟩
  · omega
  · have e : slA xx a = swS nl a n w := by
      rw [b4]
      unfold slA
      rcases (show a = 0 ∨ (a = 1 ∨ a = 2) by omega) with rfl | rfl | rfl
      · rfl
      · rfl
      · rfl
    have hs : smS n hw on rc (swS nl a n w) ≤ m := by
      rw [b2]
      unfold wyM
      rcases (show a = 0 ∨ (a = 1 ∨ a = 2) by omega) with rfl | rfl | rfl <;> omega
    rw [e]
    refine ⟨sw_lt n w, ?_⟩
    unfold smS at hs
    by_cases f : rc < LL n hw on 6 (swS nl a n w)
    · rw [if_pos f] at hs
      omega
    · omega
theorem sl_at {v : Nat} (ha : a < 3) (h5 : At ad h 33 0 0 (.int (nI xx.1)) ∧ (At ad h 33 0 1 (.int (nI xx.2.1)) ∧ At ad h 33 0 2 (.int (nI xx.2.2)))) : At ad h 33 0 a (.int (nI (slA xx a))) := by
  unfold slA
  rcases (show a = 0 ∨ (a = 1 ∨ a = 2) by omega) with rfl | rfl | rfl
  · exact h5.1
  · exact h5.2.1
  · exact h5.2.2
/-- the call of hasPlan, out of the class's methods -/
theorem rl_hasPlan {pc1 pc2 pc3 pc4 pc5 pc6 : Nat} {c1 c2 c3 : Int} {St : List Value} (hT : TS ad h np ex ho) (hox : ad 10 0 = some ox) (hX : PlX ad h n T tk d sz rc) (h0 : 0 < nl) (h3 : nl ≤ 3) (l0 : lv_get 0 L = some (.ref ox)) (l1 : lv_get 1 L = some (.int (nI nl))) (h4 : am_w St ≤ 8) (hk : ∀ h2 m xx qp, TS ad h2 np ex ho → PlE ad h h2 n T tk d sz rc → PlA ad h2 n (hwD n T tk d) (onD n T tk d sz) rc nl m xx → (At ad h2 10 0 12 (.ref qp) ∧ ad 8 0 = some qp) → Rt σ M tl L (.int (if m < 1000000 then 1 else 0) :: St) h2 Q) : Rt σ M ((pc1, (1, 0, 2)) :: (pc2, (8, 8, c1)) :: (pc3, (1, 1, 0)) :: (pc4, (1, 0, 2)) :: (pc5, (8, 6, c2)) :: (pc6, (12, 89, c3)) :: tl) L St h Q := by
  obtain ⟨⟨⟨f8, f8'⟩, f6, f6'⟩, ⟨⟨c10, c10'⟩, c8, c8'⟩, m125, -⟩ := px_f
  obtain ⟨-, s89, -⟩ := pc_sb.1
  have hX0 := hX
  obtain ⟨⟨hD, h6, hrc, hrl⟩, hP⟩ := hX
  obtain ⟨⟨⟨⟨-, lp, l4⟩, -, qp, q1, q2⟩, -⟩, -⟩ := hD
  have hD := hX0.1.1
  obtain ⟨ql, mc, ed, e2, e3, e4⟩ := l4
  obtain ⟨pf, hpf, hc⟩ := plx_hc hP h0 h3
  obtain ⟨vp, xvp, -⟩ := at_kind hT.1 (by omega) (by omega) hpf q2
  rw [c8'] at xvp
  refine rl_load l0 rfl (ra_get hT.1 (by omega) (by omega) hox (by rw [f8']; exact q1) (by rw [c10']; exact f8) (rl_load l1 rfl (rl_load l0 rfl (ra_get hT.1 (by omega) (by omega) hox (by rw [f6']; exact e2) (by rw [c10']; exact f6) (rl_callv (as := [.int (nI nl), .ref ql]) (r := St) s89 rfl rfl xvp h4 ?_ (X_hasPlan hT q2 hD ⟨mc, ed, e3, e4⟩ h6 hrc hrl h0 h3 hpf hc fun h2 m xx hT2 hF2 hA2 hp2 => hk h2 m xx qp hT2 (plx_end hX0 hF2 h0 h3 hA2 hp2) hA2 ⟨hF2.1 _ _ _ _ (nxp (by omega) (by omega) (by omega)) q1, q2⟩))))))
  unfold am_ok
  rw [decide_eq_true (show ([.ref qp, .int (nI nl), .ref ql] : List Value).length ≤ mL 125 from m125)]
  rfl
theorem X_plan (hT : TS ad h np ex ho) (hox : ad 10 0 = some ox) (hX : PlX ad h n T tk d sz rc) : Rt σ 124 (codeOf 124) (am_args 0 [.ref ox, .int nn]) [] h (fun v h' => ∃ y, v = some (.int y) ∧ (PlE ad h h' n T tk d sz rc ∧ PnR n (hwD n T tk d) (onD n T tk d sz) rc nn y)) := by
  obtain ⟨⟨⟨f8, f8'⟩, -⟩, ⟨⟨c10, c10'⟩, c8, c8'⟩, -⟩ := px_f
  obtain ⟨⟨⟨⟨-, f47, f47'⟩, -⟩, -⟩, -⟩ := pc_f
  rw [head_124]
  refine rl_load rfl rfl (rl_const (rl_const (within_ok (by show 0 ≤ 8; omega) ?_)))
  rcases pn_arg (nn := nn) with e | ⟨e, nl, e2, h0, h3⟩
  · refine rl_ifF (by rw [e]; rfl) (rl_const (rl_ret1 ⟨_, rfl, ⟨frm_refl, hX⟩, Or.inl ⟨e, rfl⟩⟩))
  · subst e2
    refine rl_ifT (by rw [e]; rfl) ?_
    show Rt σ 124 (jump 124 12) _ _ _ _
    rw [j124_12]
    refine rl_hasPlan hT hox hX h0 h3 rfl rfl (by show 0 ≤ 8; omega) fun h2 m xx qp hT2 hE hA hq => ?_
    by_cases f : m < 1000000
    · rw [if_pos f]
      refine rl_ifF rfl (rl_load rfl rfl (ra_get hT2.1 (by omega) (by omega) hox (by rw [f8']; exact hq.1) (by rw [c10']; exact f8) (ra_get hT2.1 (by omega) (by omega) hq.2 (by rw [f47']; exact hA.2.1) (by rw [c8']; exact f47) (rl_goto ?_))))
      show Rt σ 124 (jump 124 39) _ _ _ _
      rw [j124_39]
      exact rl_ret1 ⟨_, rfl, hE, Or.inr ⟨nl, m, xx, ⟨rfl, ⟨h0, h3⟩, hA.2.2.2⟩, by unfold PnV; rw [if_pos f]⟩⟩
    · rw [if_neg f]
      refine rl_ifT rfl ?_
      show Rt σ 124 (jump 124 37) _ _ _ _
      rw [j124_37, j124_39]
      exact rl_const (rl_ret1 ⟨_, rfl, hE, Or.inr ⟨nl, m, xx, ⟨rfl, ⟨h0, h3⟩, hA.2.2.2⟩, by unfold PnV; rw [if_neg f]⟩⟩)
theorem X_tour (hT : TS ad h np ex ho) (hox : ad 10 0 = some ox) (hX : PlX ad h n T tk d sz rc) : Rt σ 136 (codeOf 136) (am_args 0 [.ref ox, .int nn, .int lo, .int ii]) [] h (fun v h' => ∃ y, v = some (.int y) ∧ (PlE ad h h' n T tk d sz rc ∧ TrR n (hwD n T tk d) (onD n T tk d sz) rc nn lo ii y)) := by
  obtain ⟨⟨⟨f8, f8'⟩, -⟩, ⟨⟨c10, c10'⟩, c8, c8'⟩, -, m137, -⟩ := px_f
  obtain ⟨-, s101, -⟩ := pc_sa.2
  have bad : ∀ L : LV, TrB nn lo ii → Rt σ 136 (jump 136 24) L [] h (fun v h' => ∃ y, v = some (.int y) ∧ (PlE ad h h' n T tk d sz rc ∧ TrR n (hwD n T tk d) (onD n T tk d sz) rc nn lo ii y)) := fun L hb => by
    rw [j136_24]
    exact rl_const (rl_ret1 ⟨_, rfl, ⟨frm_refl, hX⟩, Or.inl ⟨hb, rfl⟩⟩)
  rw [head_136]
  refine rl_load rfl rfl (rl_const (rl_const (within_ok (by show 0 ≤ 8; omega) ?_)))
  rcases pn_arg (nn := nn) with e | ⟨e, nl, e2, h0, h3⟩
  · exact rl_ifT (by rw [e]; rfl) (bad _ (Or.inl e))
  · subst e2
    refine rl_ifF (by rw [e]; rfl) (rl_load rfl rfl (rl_const (rl_load rfl rfl (rl_const (rl_bin rfl (within_ok (by show 0 ≤ 8; omega) ?_))))))
    rcases lo_arg (lo := lo) h0 h3 with g | ⟨g, a, g2, g3⟩
    · exact rl_ifT (by show some (decide (txW lo (Int32.ofInt 0) (nI nl - Int32.ofInt 1) = 0)) = some true; rw [g]; rfl) (bad _ (Or.inr (Or.inl g)))
    · refine rl_ifF (by show some (decide (txW lo (Int32.ofInt 0) (nI nl - Int32.ofInt 1) = 0)) = some false; rw [g]; rfl) (rl_load rfl rfl ?_)
      by_cases k0 : 0 ≤ ii
      case neg => exact rl_ifF (by show some (decide (0 ≤ ii)) = some false; rw [decide_eq_false k0]) (bad _ (Or.inr (Or.inr (Int32.not_le.mp k0))))
      refine rl_ifT (by show some (decide (0 ≤ ii)) = some true; rw [decide_eq_true k0]) ?_
      obtain ⟨i, e4, e5⟩ : ∃ i, ii = nI i ∧ i < 2147483648 := by
        rw [i_le, show i2n 0 = 2147483648 from c_0] at k0
        have := i2n_lt ii
        exact ⟨i2n ii - 2147483648, r5nI (by omega) (by omega), by omega⟩
      subst g2
      subst e4
      show Rt σ 136 (jump 136 27) _ _ _ _
      rw [j136_27]
      refine rl_hasPlan hT hox hX h0 h3 rfl rfl (by show 0 ≤ 8; omega) fun h2 m xx qp hT2 hE hA hq => ?_
      by_cases f : m < 1000000
      · rw [if_pos f]
        obtain ⟨s1, s2⟩ := pl_set hA.2.2.2 f hX.1.2.2.2 (show a < 3 by omega)
        have hD2 := hE.2.1.1
        obtain ⟨vp, xvp, -⟩ := at_kind hT2.1 (by omega) (by omega) hA.2.1 hq.2
        rw [c8'] at xvp
        refine rl_ifF rfl (rl_load rfl rfl (ra_get hT2.1 (by omega) (by omega) hox (by rw [f8']; exact hq.1) (by rw [c10']; exact f8) (rl_load rfl rfl (rl_load rfl rfl (rl_callv (as := [.int (nI a), .int (nI i)]) (r := []) s101 rfl rfl xvp (by show 0 ≤ 8; omega) (three_ok m137) (X_taskOf hT2 hq.2 hD2.1.1.1.2.1 hD2.1.1.1.1.1 (pd_lgb hD2) (hwD_6 hD2.1.1.1.1.1) hA.1.1.1 hA.1.1.2 (by omega) (sl_at (v := 0) (by omega) (hA.2.2.1 f)) s1 s2 e5 (rl_goto ?_)))))))
        show Rt σ 136 (jump 136 56) _ _ _ _
        rw [j136_56]
        exact rl_ret1 ⟨_, rfl, hE, Or.inr ⟨nl, m, xx, ⟨rfl, ⟨h0, h3⟩, hA.2.2.2⟩, a, i, ⟨⟨rfl, g3⟩, rfl, e5⟩, by rw [if_pos f]⟩⟩
      · rw [if_neg f]
        refine rl_ifT rfl ?_
        show Rt σ 136 (jump 136 54) _ _ _ _
        rw [j136_54, j136_56]
        exact rl_const (rl_ret1 ⟨_, rfl, hE, Or.inr ⟨nl, m, xx, ⟨rfl, ⟨h0, h3⟩, hA.2.2.2⟩, a, i, ⟨⟨rfl, g3⟩, rfl, e5⟩, by rw [if_neg f]⟩⟩)
theorem X_miles (hT : TS ad h np ex ho) (hox : ad 10 0 = some ox) (hX : PlX ad h n T tk d sz rc) : Rt σ 140 (codeOf 140) (am_args 0 [.ref ox, .int nn, .int lo]) [] h (fun v h' => ∃ y, v = some (.int y) ∧ (PlE ad h h' n T tk d sz rc ∧ MiR n (hwD n T tk d) (onD n T tk d sz) rc nn lo y)) := by
  obtain ⟨⟨⟨f8, f8'⟩, -⟩, ⟨⟨c10, c10'⟩, c8, c8'⟩, -, -, m141⟩ := px_f
  obtain ⟨⟨-, s104⟩, -⟩ := pc_sb.1
  obtain ⟨-, -, s102⟩ := pc_sa.2
  obtain ⟨-, -, m138⟩ := pc_ml.1.2
  obtain ⟨⟨-, ⟨-, f63, f63'⟩, -⟩, -⟩ := pc_f
  obtain ⟨⟨-, t7, -⟩, -⟩ := pl_t
  have bad : ∀ L : LV, MiB nn lo → Rt σ 140 (jump 140 20) L [] h (fun v h' => ∃ y, v = some (.int y) ∧ (PlE ad h h' n T tk d sz rc ∧ MiR n (hwD n T tk d) (onD n T tk d sz) rc nn lo y)) := fun L hb => by
    rw [j140_20]
    exact rl_const (rl_ret1 ⟨_, rfl, ⟨frm_refl, hX⟩, Or.inl ⟨hb, rfl⟩⟩)
  rw [head_140]
  refine rl_load rfl rfl (rl_const (rl_const (within_ok (by show 0 ≤ 8; omega) ?_)))
  rcases pn_arg (nn := nn) with e | ⟨e, nl, e2, h0, h3⟩
  · exact rl_ifT (by rw [e]; rfl) (bad _ (Or.inl e))
  · subst e2
    refine rl_ifF (by rw [e]; rfl) (rl_load rfl rfl (rl_const (rl_load rfl rfl (rl_const (rl_bin rfl (within_ok (by show 0 ≤ 8; omega) ?_))))))
    rcases lo_arg (lo := lo) h0 h3 with g | ⟨g, a, g2, g3⟩
    · exact rl_ifF (by show some (decide (¬ txW lo (Int32.ofInt 0) (nI nl - Int32.ofInt 1) = 0)) = some false; rw [g]; rfl) (bad _ (Or.inr g))
    · refine rl_ifT (by show some (decide (¬ txW lo (Int32.ofInt 0) (nI nl - Int32.ofInt 1) = 0)) = some true; rw [g]; rfl) ?_
      subst g2
      show Rt σ 140 (jump 140 23) _ _ _ _
      rw [j140_23]
      refine rl_hasPlan hT hox hX h0 h3 rfl rfl (by show 0 ≤ 8; omega) fun h2 m xx qp hT2 hE hA hq => ?_
      by_cases f : m < 1000000
      · rw [if_pos f]
        obtain ⟨s1, s2⟩ := pl_set hA.2.2.2 f hX.1.2.2.2 (show a < 3 by omega)
        obtain ⟨vp, xvp, -⟩ := at_kind hT2.1 (by omega) (by omega) hA.2.1 hq.2
        rw [c8'] at xvp
        have hn6 : n ≤ 6 := hX.1.1.1.1.1.1.1
        have b64 := bq_lt n (by omega)
        refine rl_ifF rfl (rl_load rfl rfl (ra_get hT2.1 (by omega) (by omega) hox (by rw [f8']; exact hq.1) (by rw [c10']; exact f8) (rl_load rfl rfl (rl_callv (as := [.int (nI a)]) (r := []) s104 rfl rfl xvp (by show 0 ≤ 8; omega) (two_ok m141) ?_))))
        rw [code_141]
        refine rl_load rfl rfl (ra_prow hT2 hq.2 (by rw [f63']; exact t7) f63 fun q32 hq32 => rl_load rfl rfl (rl_load rfl rfl (rl_callv (as := [.int (nI a)]) (r := [.ref q32]) s102 rfl rfl xvp (by show 1 ≤ 8; omega) (two_ok m138) (X_setOf hT2 hq.2 (by omega) (sl_at (v := 0) (by omega) (hA.2.2.1 f)) (ra_ald hT2.1 (by omega) (by rw [pr_32.1.1.2]; omega) hq32 (hA.1.2 _ s1) (by rw [pr_32.1.1.2]; rfl) (by omega) (rl_ret1 (rl_goto ?_)))))))
        show Rt σ 140 (jump 140 51) _ _ _ _
        rw [j140_51]
        exact rl_ret1 ⟨_, rfl, hE, Or.inr ⟨nl, m, xx, ⟨rfl, ⟨h0, h3⟩, hA.2.2.2⟩, a, ⟨rfl, g3⟩, by rw [if_pos f]⟩⟩
      · rw [if_neg f]
        refine rl_ifT rfl ?_
        show Rt σ 140 (jump 140 49) _ _ _ _
        rw [j140_49, j140_51]
        exact rl_const (rl_ret1 ⟨_, rfl, hE, Or.inr ⟨nl, m, xx, ⟨rfl, ⟨h0, h3⟩, hA.2.2.2⟩, a, ⟨rfl, g3⟩, by rw [if_neg f]⟩⟩)
end
end
