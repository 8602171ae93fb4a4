section
/-! ===== the planner: the class's least miles of sets ===== -/
section
variable {σ : Nat → Nat} {ad : AD} {h h1 h' : AH} {np n T ox m t i j qp ql x y S p : Nat} {ex ho : Nat → Nat → Prop} {Q : Option Value → AH → Prop} {tl : List (Nat × AI)} {L : LV} {St : List Value} {M pc : Nat} {c : Int} {hw : Nat → Nat} {on : Nat → Nat → Nat} {rc nl : Nat} {a b : Nat}
theorem four_okN {q M : Nat} {a b c : Int32} (hm : 4 ≤ mL M) : am_ok [.ref q, .int a, .int b, .int c] M = true := by
  unfold am_ok
  rw [decide_eq_true (show ([.ref q, .int a, .int b, .int c] : List Value).length ≤ mL M from hm)]
  rfl
theorem six_mul (k : Nat) : nI k * nI 6 = nI (k * 6) := pk_mul k 6
theorem X_milesOn (hT : TS ad h np ex ho) (hqp : ad 8 0 = some qp) (h1 : At ad h 30 0 (p * 6 + j) (.int (nI a))) (h2 : At ad h 31 0 (S * 6 + j) (.int (nI b))) (hp : p < 7) (hj : j < 6) (hS : S < 64) (hb : a + b < 2147483648) (hQ : Q (some (.int (nI (a + b)))) h) : Rt σ 133 (codeOf 133) (am_args 0 [.ref qp, .int (nI p), .int (nI j), .int (nI S)]) [] h Q := by
  obtain ⟨⟨⟨-, -, f61, f61'⟩, ⟨⟨f62, f62'⟩, -⟩, -⟩, -⟩ := pc_f
  obtain ⟨⟨⟨-, t5, t6⟩, -⟩, -⟩ := pl_t
  rw [code_133]
  refine rl_load rfl rfl (ra_prow hT hqp (by rw [f61']; exact t5) f61 fun q30 hq30 => rl_load rfl rfl (rl_const (rl_bin (z := nI (p * 6)) (by show some (nI p * nI 6) = some _; rw [six_mul]) (rl_load rfl rfl (rl_bin (z := nI (p * 6 + j)) (by show some _ = some _; rw [nI_plus (by omega)]) (ra_ald hT.1 (by omega) (by rw [pr_30.1.1.2]; omega) hq30 h1 (by rw [pr_30.1.1.2]; rfl) (by omega) ?_))))))
  refine rl_load rfl rfl (ra_prow hT hqp (by rw [f62']; exact t6) f62 fun q31 hq31 => rl_load rfl rfl (rl_const (rl_bin (z := nI (S * 6)) (by show some (nI S * nI 6) = some _; rw [six_mul]) (rl_load rfl rfl (rl_bin (z := nI (S * 6 + j)) (by show some _ = some _; rw [nI_plus (by omega)]) (ra_ald hT.1 (by omega) (by rw [pr_31.1.1.2]; omega) hq31 h2 (by rw [pr_31.1.1.2]; rfl) (by omega) (rl_bin (z := nI (a + b)) (by show some _ = some _; rw [nI_plus (by omega)]) (rl_ret1 hQ))))))))
/-- what leastOn reads -/
noncomputable def LoS (ad : AD) (h : AH) (n : Nat) (hw : Nat → Nat) (on : Nat → Nat → Nat) (p S : Nat) : Prop := (S = 0 → At ad h 29 0 p (.int (nI (hw p)))) ∧ ∀ j, j < n → Nat.testBit S j = true → At ad h 30 0 (p * 6 + j) (.int (nI (on p j))) ∧ At ad h 31 0 (S * 6 + j) (.int (nI (LL n hw on j (S - 2 ^ j))))
/-- bounds of the legs -/
noncomputable def LgB (n : Nat) (hw : Nat → Nat) (on : Nat → Nat → Nat) : Prop := (∀ i, hw i ≤ 1000000) ∧ ∀ i j, j < n → on i j ≤ 1000200
theorem icmp_bit (hS : S < 64) (hj : j < 6) : icond 1 ((nI S >>> (nI j &&& 31)) &&& Int32.ofInt 1) (Int32.ofInt 1) = some (!(Nat.testBit S j)) := by
  show some (decide (¬ ((nI S >>> (nI j &&& 31)) &&& Int32.ofInt 1) = Int32.ofInt 1)) = _
  rw [bq_bit S hS j hj]
  cases Nat.testBit S j
  · rfl
  · rfl
theorem X_leastOn (hT : TS ad h np ex ho) (hqp : ad 8 0 = some qp) (hl : LsP ad h n) (hn : n ≤ 6) (hB : LgB n hw on) (hO : LoS ad h n hw on p S) (hp : p < 7) (hS : S < 64) (hQ : Q (some (.int (nI (LL n hw on p S)))) h) : Rt σ 132 (codeOf 132) (am_args 0 [.ref qp, .int (nI p), .int (nI S)]) [] h Q := by
  obtain ⟨⟨⟨-, ⟨f60, f60'⟩, -⟩, -⟩, -⟩ := pc_f
  obtain ⟨⟨⟨t4, -⟩, -⟩, -⟩ := pl_t
  obtain ⟨⟨-, -, s98⟩, -⟩ := pc_sa
  obtain ⟨⟨-, -, m133⟩, -⟩ := pc_ml.1
  obtain ⟨⟨-, -, c8m, c8⟩, -⟩ := bd_c.1
  have hl0 := hl
  obtain ⟨q7, mc, ed, a1, -⟩ := hl
  obtain ⟨vp, xp, -⟩ := at_kind hT.1 (by omega) (by omega) a1 hqp
  rw [c8] at xp
  -- so far
  have acc : ∃ A : Nat → Nat, (A 0 = (if S = 0 then hw p else 1000000) ∧ A n = LL n hw on p S) ∧ ((∀ j, A j ≤ 1000000) ∧ ∀ j, j < n → A (j + 1) = if Nat.testBit S j = true then (if on p j + LL n hw on j (S - 2 ^ j) < A j then on p j + LL n hw on j (S - 2 ^ j) else A j) else A j) := by
    by_cases e : S = 0
    · subst e
      refine ⟨fun _ => hw p, ⟨by rw [if_pos rfl], rfl⟩, fun _ => hB.1 p, fun j _ => ?_⟩
      rw [if_neg (by rw [Nat.zero_testBit]; exact fun f => by cases f)]
    · refine ⟨mnJ (fun j => Nat.testBit S j) (fun j => on p j + LL n hw on j (S - 2 ^ j)), ⟨by rw [if_neg e]; rfl, (LL_s e).symm⟩, fun j => mnJ_top j, fun j _ => ?_⟩
      rw [mnJ]
      cases Nat.testBit S j
      · rfl
      · rfl
  obtain ⟨A, ⟨A0, An⟩, At', As⟩ := acc
  have loop : ∀ (r j : Nat) (L : LV), j + r = n → lv_get 0 L = some (.ref qp) → lv_get 1 L = some (.int (nI p)) → lv_get 2 L = some (.int (nI S)) → lv_get 3 L = some (.int (nI (A j))) → lv_get 4 L = some (.int (nI n)) → lv_get 5 L = some (.int (nI j)) → Rt σ 132 (jump 132 25) L [] h Q := by
    intro r
    induction r with
    | zero =>
      intro j L hj l0 l1 l2 l3 l4 l5
      have ej : j = n := by omega
      subst ej
      rw [j132_25]
      refine rl_load l5 rfl (rl_load l4 rfl (rl_icmpT ?_ ?_))
      · show some (decide (nI j ≤ nI j)) = some true
        rw [decide_eq_true ((tx_le (by omega) (by omega)).mpr (Nat.le_refl _))]
      · show Rt σ 132 (jump 132 61) _ _ _ _
        rw [j132_61]
        rw [An] at l3
        exact rl_load l3 rfl (rl_ret1 hQ)
    | succ r ih =>
      intro j L hj l0 l1 l2 l3 l4 l5
      have hjn : j < n := by omega
      have aj := At' j
      have as := As j hjn
      have nx : ∀ (L' : LV), lv_get 0 L' = some (.ref qp) → lv_get 1 L' = some (.int (nI p)) → lv_get 2 L' = some (.int (nI S)) → lv_get 3 L' = some (.int (nI (A (j + 1)))) → lv_get 4 L' = some (.int (nI n)) → lv_get 5 L' = some (.int (nI j)) → Rt σ 132 (jump 132 55) L' [] h Q := fun L' m0 m1 m2 m3 m4 m5 => by
        rw [j132_55]
        refine rl_iinc m5 (rl_goto ?_)
        rw [nI_suc (by omega)]
        exact ih (j + 1) _ (by omega) (get_put rfl rfl (by omega) m0) (get_put rfl rfl (by omega) m1) (get_put rfl rfl (by omega) m2) (get_put rfl rfl (by omega) m3) (get_put rfl rfl (by omega) m4) rfl
      rw [j132_25]
      refine rl_load l5 rfl (rl_load l4 rfl (rl_icmpF ?_ (rl_load l2 rfl (rl_load l5 rfl (rl_bin rfl (rl_const (rl_bin rfl (rl_const ?_))))))))
      · show some (decide (nI n ≤ nI j)) = some false
        rw [decide_eq_false (by rw [tx_le (by omega) (by omega)]; omega)]
      cases hb : Nat.testBit S j
      · rw [hb, if_neg (fun f => by cases f)] at as
        refine rl_icmpT (by rw [icmp_bit hS (by omega), hb]; rfl) ?_
        show Rt σ 132 (jump 132 55) _ _ _ _
        exact nx L l0 l1 l2 (by rw [as]; exact l3) l4 l5
      · rw [hb, if_pos rfl] at as
        obtain ⟨o1, o2⟩ := hO.2 j hjn hb
        have b1 := hB.2 p j hjn
        have b2 := LL_top (n := n) (hw := hw) (on := on) (p := j) (S := S - 2 ^ j) (hB.1 j)
        refine rl_icmpF (by rw [icmp_bit hS (by omega), hb]; rfl) (rl_load l3 rfl (rl_load l0 rfl (rl_load l1 rfl (rl_load l5 rfl (rl_load l2 rfl (rl_callv (as := [.int (nI p), .int (nI j), .int (nI S)]) (r := [.int (nI (A j))]) s98 rfl rfl xp (by show 1 ≤ 8; omega) (four_okN m133) (X_milesOn hT hqp o1 o2 hp (by omega) hS (by omega) (rl_min (by show 0 ≤ 8; omega) ?_))))))))
        rw [mn_nI (by omega) (by omega), ← as]
        refine rl_store rfl ?_
        exact nx _ (get_put rfl rfl (by omega) l0) (get_put rfl rfl (by omega) l1) (get_put rfl rfl (by omega) l2) rfl (get_put rfl rfl (by omega) l4) (get_put rfl rfl (by omega) l5)
  have start : ∀ (L' : LV) (v : Nat), v = A 0 → lv_get 0 L' = some (.ref qp) → lv_get 1 L' = some (.int (nI p)) → lv_get 2 L' = some (.int (nI S)) → Rt σ 132 (jump 132 15) L' [.int (nI v)] h Q := fun L' v hv m0 m1 m2 => by
    rw [j132_15]
    refine rl_store rfl (rl_load (get_put rfl rfl (by omega) m0) rfl (rl_tc hT hqp hl0 hn (by show 0 ≤ 8; omega) (rl_store rfl (rl_const (rl_store rfl ?_)))))
    rw [hv]
    have g := fun {k : Nat} {u : Value} (hk : k ≤ 2) (hu : u.category = 1) (hz : lv_get k L' = some u) => get_put (v := .int (nI 0)) (j := 5) hu rfl (by omega) (get_put (v := .int (nI n)) (j := 4) hu rfl (by omega) (get_put (v := .int (nI (A 0))) (j := 3) hu rfl (by omega) hz))
    exact loop n 0 _ (by omega) (g (by omega) rfl m0) (g (by omega) rfl m1) (g (by omega) rfl m2) (get_put rfl rfl (by omega) (get_put rfl rfl (by omega) rfl)) (get_put rfl rfl (by omega) rfl) rfl
  rw [head_132]
  by_cases e : S = 0
  · have ez : nI S = 0 := by rw [e]; rfl
    refine rl_load rfl rfl (rl_ifF (by show some (decide (¬ nI S = 0)) = some false; rw [ez]; rfl) (rl_load rfl rfl (ra_prow hT hqp (by rw [f60']; exact t4) f60 fun q29 hq29 => rl_load rfl rfl (ra_ald hT.1 (by omega) (by rw [pr_29.1.1.2]; omega) hq29 (hO.1 e) (by rw [pr_29.1.1.2]; rfl) (by omega) (rl_goto ?_)))))
    exact start _ _ (by rw [A0, if_pos e]) rfl rfl rfl
  · have nz : ¬ nI S = 0 := fun f => e (nI_eqn (by omega) (by omega) f)
    refine rl_load rfl rfl (rl_ifT (by show some (decide (¬ nI S = 0)) = some true; rw [decide_eq_true nz]) ?_)
    show Rt σ 132 (jump 132 13) _ _ _ _
    rw [j132_13]
    exact rl_const (start _ 1000000 (by rw [A0, if_neg e]) rfl rfl rfl)
/-- the least TASK to go on to -/
theorem X_leastBest (hT : TS ad h np ex ho) (hqp : ad 8 0 = some qp) (hl : LsP ad h n) (hn : n ≤ 6) (hB : LgB n hw on) (hO : LoS ad h n hw on p S) (hp : p < 7) (hS : S < 64) (h0 : S ≠ 0) (hlt : LL n hw on p S < 1000000) (hQ : Q (some (.int (nI (lbJ n hw on p S)))) h) : Rt σ 139 (codeOf 139) (am_args 0 [.ref qp, .int (nI p), .int (nI S)]) [] h Q := by
  obtain ⟨⟨-, s97, s98⟩, -⟩ := pc_sa
  obtain ⟨⟨-, m132, m133⟩, -⟩ := pc_ml.1
  obtain ⟨⟨-, -, c8m, c8⟩, -⟩ := bd_c.1
  have hl0 := hl
  obtain ⟨q7, mc, ed, a1, -⟩ := hl
  obtain ⟨vp, xp, -⟩ := at_kind hT.1 (by omega) (by omega) a1 hqp
  rw [c8] at xp
  obtain ⟨⟨k1, k2⟩, k3, k4⟩ := lbJ_ok h0 hlt
  have loop : ∀ (r j : Nat) (L : LV), j + r = n → j ≤ lbJ n hw on p S → lv_get 0 L = some (.ref qp) → lv_get 1 L = some (.int (nI p)) → lv_get 2 L = some (.int (nI S)) → lv_get 3 L = some (.int (nI (LL n hw on p S))) → lv_get 4 L = some (.int (nI j)) → Rt σ 139 (jump 139 10) L [] h Q := by
    intro r
    induction r with
    | zero => intro j L hj hle; omega
    | succ r ih =>
      intro j L hj hle l0 l1 l2 l3 l4
      have hjn : j < n := by omega
      have nx : j < lbJ n hw on p S → Rt σ 139 (jump 139 44) L [] h Q := fun hlt' => by
        rw [j139_44]
        refine rl_iinc l4 (rl_goto ?_)
        rw [nI_suc (by omega)]
        exact ih (j + 1) _ (by omega) (by omega) (get_put rfl rfl (by omega) l0) (get_put rfl rfl (by omega) l1) (get_put rfl rfl (by omega) l2) (get_put rfl rfl (by omega) l3) rfl
      rw [j139_10]
      refine rl_load l4 rfl (rl_load l0 rfl (rl_tc hT hqp hl0 hn (by show 1 ≤ 8; omega) (rl_icmpF ?_ (rl_load l2 rfl (rl_load l4 rfl (rl_bin rfl (rl_const (rl_bin rfl (rl_const ?_)))))))))
      · show some (decide (nI n ≤ nI j)) = some false
        rw [decide_eq_false (by rw [tx_le (by omega) (by omega)]; omega)]
      cases hb : Nat.testBit S j
      · refine rl_icmpT (by rw [icmp_bit hS (by omega), hb]; rfl) ?_
        show Rt σ 139 (jump 139 44) _ _ _ _
        refine nx (Nat.lt_of_le_of_ne hle fun e => ?_)
        rw [← e, hb] at k2
        cases k2
      · obtain ⟨o1, o2⟩ := hO.2 j hjn hb
        have b1 := hB.2 p j hjn
        have b2 := LL_top (n := n) (hw := hw) (on := on) (p := j) (S := S - 2 ^ j) (hB.1 j)
        refine rl_icmpF (by rw [icmp_bit hS (by omega), hb]; rfl) (rl_load l0 rfl (rl_load l1 rfl (rl_load l4 rfl (rl_load l2 rfl (rl_callv (as := [.int (nI p), .int (nI j), .int (nI S)]) (r := []) s98 rfl rfl xp (by show 0 ≤ 8; omega) (four_okN m133) (X_milesOn hT hqp o1 o2 hp (by omega) hS (by omega) (rl_load l3 rfl ?_)))))))
        by_cases e : on p j + LL n hw on j (S - 2 ^ j) = LL n hw on p S
        · have := k4 j hjn hb e
          have ej : j = lbJ n hw on p S := by omega
          refine rl_icmpF (by show some (decide (¬ nI (on p j + LL n hw on j (S - 2 ^ j)) = nI (LL n hw on p S))) = some false; rw [e, decide_eq_false (fun f => f rfl)]) (rl_load l4 rfl (rl_ret1 ?_))
          rw [ej]
          exact hQ
        · refine rl_icmpT (by show some (decide (¬ nI (on p j + LL n hw on j (S - 2 ^ j)) = nI (LL n hw on p S))) = some true; rw [decide_eq_true (show ¬ nI (on p j + LL n hw on j (S - 2 ^ j)) = nI (LL n hw on p S) from fun f => e (nI_inj (by omega) (by omega) f))]) ?_
          show Rt σ 139 (jump 139 44) _ _ _ _
          refine nx (Nat.lt_of_le_of_ne hle fun f => e ?_)
          rw [f]
          exact k3
  rw [head_139]
  refine rl_load rfl rfl (rl_load rfl rfl (rl_load rfl rfl (rl_callv (as := [.int (nI p), .int (nI S)]) (r := []) s97 rfl rfl xp (by show 0 ≤ 8; omega) (three_ok m132) (X_leastOn hT hqp hl0 hn hB hO hp hS (rl_store rfl (rl_const (rl_store rfl ?_)))))))
  exact loop n 0 _ (by omega) (Nat.zero_le _) rfl rfl rfl rfl rfl
theorem lo_of (hL : LgS ad h n hw on n n 0) (hR : RmS ad h n hw on (S + 1) 0) (h6 : hw 6 = 0) (hp : p < n ∨ p = 6) : LoS ad h n hw on p S := by
  obtain ⟨b1, b2, b3, -⟩ := hL
  refine ⟨fun _ => ?_, fun j hj hb => ⟨?_, hR.1 S j (by omega) hj hb⟩⟩
  · rcases hp with hp | hp
    · exact (b2 p hp).1
    · rw [hp, h6]
      exact b1
  · rcases hp with hp | hp
    · exact b3 p j hp hj
    · rw [hp]
      exact (b2 j hj).2
theorem rm_up (hR : RmS ad h n hw on S n) : RmS ad h n hw on (S + 1) 0 := by
  refine ⟨fun S' j h1 h2 h3 => ?_, fun j h1 => absurd h1 (Nat.not_lt_zero _)⟩
  by_cases e : S' < S
  · exact hR.1 S' j e h2 h3
  · have es : S' = S := by omega
    rw [es] at h3 ⊢
    exact hR.2 j h2 h2 h3
theorem smS_le (hB : LgB n hw on) : smS n hw on rc S ≤ 1000000 := by
  unfold smS
  by_cases e : rc < LL n hw on 6 S
  · rw [if_pos e]; omega
  · rw [if_neg e]; exact LL_top (hB.1 6)
theorem lgs_keep (o : ∀ c' i' p' W, c' = 29 ∨ c' = 30 → At ad h c' i' p' W → At ad h' c' i' p' W) (hL : LgS ad h n hw on i j t) : LgS ad h' n hw on i j t := by
  obtain ⟨b1, b2, b3, b4⟩ := hL
  exact ⟨o _ _ _ _ (Or.inl rfl) b1, fun t ht => ⟨o _ _ _ _ (Or.inl rfl) (b2 t ht).1, o _ _ _ _ (Or.inr rfl) (b2 t ht).2⟩, fun t k h1 h2 => o _ _ _ _ (Or.inr rfl) (b3 t k h1 h2), fun k h1 => o _ _ _ _ (Or.inr rfl) (b4 k h1)⟩
theorem X_sets (hT : TS ad h np ex ho) (hqp : ad 8 0 = some qp) (hl : LsP ad h n) (hn : n ≤ 6) (hB : LgB n hw on) (h6 : hw 6 = 0) (hL : LgS ad h n hw on n n 0) (hrc : At ad h 8 0 1 (.int (nI rc))) (hrl : rc < 1000000) (hk : ∀ h', TS ad h' np ex ho → Frm ad h h' → LgS ad h' n hw on n n 0 → RmS ad h' n hw on (2 ^ n) 0 → MsS ad h' n hw on rc (2 ^ n) → Q none h') : Rt σ 131 (codeOf 131) (am_args 0 [.ref qp]) [] h Q := by
  obtain ⟨⟨⟨⟨f46, f46'⟩, -⟩, -⟩, ⟨⟨f62, f62'⟩, f63, f63'⟩, -⟩ := pc_f.1
  obtain ⟨⟨⟨-, -, t6⟩, t7, -⟩, -⟩ := pl_t
  obtain ⟨⟨-, s97, -⟩, -⟩ := pc_sa
  obtain ⟨⟨-, m132, -⟩, -⟩ := pc_ml.1
  obtain ⟨⟨-, -, c8m, c8⟩, -⟩ := bd_c.1
  have b64 := bq_lt n (by omega)
  have x8 : ∀ h', TS ad h' np ex ho → Frm ad h h' → ∃ vp, h'.1 qp = some (8, vp) := fun h' hT' hF => by
    obtain ⟨q7, mc, ed, a1, -⟩ := lsp_frm hF hl
    obtain ⟨vp, xp, -⟩ := at_kind hT'.1 (by omega) (by omega) a1 hqp
    rw [c8] at xp
    exact ⟨vp, xp⟩
  have inner : ∀ (S : Nat), S < 2 ^ n → (∀ h', TS ad h' np ex ho → Frm ad h h' → LgS ad h' n hw on n n 0 → RmS ad h' n hw on (S + 1) 0 → MsS ad h' n hw on rc S → ∀ L : LV, lv_get 0 L = some (.ref qp) → lv_get 1 L = some (.int (nI n)) → lv_get 2 L = some (.int (nI S)) → Rt σ 131 (jump 131 59) L [] h' Q) → ∀ (r i : Nat) (h' : AH) (L : LV), i + r = n → TS ad h' np ex ho → Frm ad h h' → LgS ad h' n hw on n n 0 → RmS ad h' n hw on S i → MsS ad h' n hw on rc S → lv_get 0 L = some (.ref qp) → lv_get 1 L = some (.int (nI n)) → lv_get 2 L = some (.int (nI S)) → lv_get 3 L = some (.int (nI i)) → Rt σ 131 (jump 131 16) L [] h' Q := by
    intro S hS hend r
    induction r with
    | zero =>
      intro i h' L hi hT' hF hL' hR hM l0 l1 l2 l3
      have ei : i = n := by omega
      subst ei
      rw [j131_16]
      refine rl_load l3 rfl (rl_load l1 rfl (rl_icmpT ?_ ?_))
      · show some (decide (nI i ≤ nI i)) = some true
        rw [decide_eq_true ((tx_le (by omega) (by omega)).mpr (Nat.le_refl _))]
      · exact hend h' hT' hF hL' (rm_up hR) hM L l0 l1 l2
    | succ r ih =>
      intro i h' L hi hT' hF hL' hR hM l0 l1 l2 l3
      have hin : i < n := by omega
      have nx : ∀ h2, TS ad h2 np ex ho → Frm ad h h2 → LgS ad h2 n hw on n n 0 → RmS ad h2 n hw on S (i + 1) → MsS ad h2 n hw on rc S → Rt σ 131 (jump 131 53) L [] h2 Q := fun h2 hT2 hF2 hL2 hR2 hM2 => by
        rw [j131_53]
        refine rl_iinc l3 (rl_goto ?_)
        rw [nI_suc (by omega)]
        exact ih (i + 1) h2 _ (by omega) hT2 hF2 hL2 hR2 hM2 (get_put rfl rfl (by omega) l0) (get_put rfl rfl (by omega) l1) (get_put rfl rfl (by omega) l2) rfl
      rw [j131_16]
      refine rl_load l3 rfl (rl_load l1 rfl (rl_icmpF ?_ (rl_load l2 rfl (rl_load l3 rfl (rl_bin rfl (rl_const (rl_bin rfl (rl_const ?_))))))))
      · show some (decide (nI n ≤ nI i)) = some false
        rw [decide_eq_false (by rw [tx_le (by omega) (by omega)]; omega)]
      cases hb : Nat.testBit S i
      · refine rl_icmpT (by rw [icmp_bit (by omega) (by omega), hb]; rfl) ?_
        show Rt σ 131 (jump 131 53) _ _ _ _
        refine nx h' hT' hF hL' ⟨hR.1, fun j h1 h2 h3 => ?_⟩ hM
        by_cases e : j = i
        · rw [e, hb] at h3
          cases h3
        · exact hR.2 j (by omega) h2 h3
      · obtain ⟨vp, xp⟩ := x8 h' hT' hF
        have tp := two_pos i
        have s0 := bt_0 hb
        have hlo : LoS ad h' n hw on i (S - 2 ^ i) := lo_of hL' ⟨fun S' j h1 h2 h3 => hR.1 S' j (by omega) h2 h3, fun j h1 => absurd h1 (Nat.not_lt_zero _)⟩ h6 (Or.inl hin)
        refine rl_icmpF (by rw [icmp_bit (by omega) (by omega), hb]; rfl) (rl_load l0 rfl (ra_prow hT' hqp (by rw [f62']; exact t6) f62 fun q31 hq31 => rl_load l2 rfl (rl_const (rl_bin (z := nI (S * 6)) (by show some (nI S * nI 6) = some _; rw [six_mul]) (rl_load l3 rfl (rl_bin (z := nI (S * 6 + i)) (by show some _ = some _; rw [nI_plus (by omega)]) (rl_load l0 rfl (rl_load l3 rfl (rl_load l2 rfl (rl_const (rl_load l3 rfl (rl_bin rfl (rl_const (rl_bin rfl (rl_bin (z := nI (S - 2 ^ i)) ?_ (rl_callv (as := [.int (nI i), .int (nI (S - 2 ^ i))]) (r := [.int (nI (S * 6 + i)), .ref q31]) s97 rfl rfl xp (by show 2 ≤ 8; omega) (three_ok m132) (X_leastOn hT' hqp (lsp_frm hF hl) hn hB hlo (by omega) (by omega) (rl_prow hT' pr_31 hq31 (by omega) (by omega) i2n_full fun h2 hT2 hO => ?_)))))))))))))))))) 
        · show some (nI S &&& ((Int32.ofInt 1 <<< (nI i &&& 31)) ^^^ Int32.ofInt (-1))) = some _
          rw [bq_rm S (by omega) i (by omega) hb]
        · have o := fun {c' i' p' W} (hne : ¬ (c' = 31 ∧ (i' = 0 ∧ p' = S * 6 + i))) ha => hO.1.2 c' i' p' W hne ha
          refine nx h2 hT2 (frm_trans hF (frm_one hO (Or.inl (by omega)))) (lgs_keep (fun c' i' p' W hc ha => o (fun e => by omega) ha) hL') ⟨fun S' j h1 h3 h4 => o (fun e => absurd e.2.2 (by omega)) (hR.1 S' j h1 h3 h4), fun j h1 h3 h4 => ?_⟩ (fun S' h1 => o (fun e => absurd e.1 (by omega)) (hM S' h1))
          by_cases e : j = i
          · subst e
            exact hO.1.1
          · exact o (fun f => absurd f.2.2 (by omega)) (hR.2 j (by omega) h3 h4)
  have outer : ∀ (r S : Nat) (h' : AH) (L : LV), S + r = 2 ^ n → TS ad h' np ex ho → Frm ad h h' → LgS ad h' n hw on n n 0 → RmS ad h' n hw on S 0 → MsS ad h' n hw on rc S → lv_get 0 L = some (.ref qp) → lv_get 1 L = some (.int (nI n)) → lv_get 2 L = some (.int (nI S)) → Rt σ 131 (jump 131 7) L [] h' Q := by
    intro r
    induction r with
    | zero =>
      intro S h' L hS hT' hF hL' hR hM l0 l1 l2
      have eS : S = 2 ^ n := by omega
      subst eS
      rw [j131_7]
      refine rl_load l2 rfl (rl_const (rl_load l1 rfl (rl_bin (z := nI (2 ^ n)) (by show some (Int32.ofInt 1 <<< (nI n &&& 31)) = some _; rw [bq_sh n (by omega)]) (rl_icmpT ?_ ?_))))
      · show some (decide (nI (2 ^ n) ≤ nI (2 ^ n))) = some true
        rw [decide_eq_true ((tx_le (by omega) (by omega)).mpr (Nat.le_refl _))]
      · show Rt σ 131 (jump 131 93) _ _ _ _
        rw [j131_93]
        exact rl_ret0 (hk h' hT' hF hL' hR hM)
    | succ r ih =>
      intro S h' L hS hT' hF hL' hR hM l0 l1 l2
      have hS2 : S < 2 ^ n := by omega
      rw [j131_7]
      refine rl_load l2 rfl (rl_const (rl_load l1 rfl (rl_bin (z := nI (2 ^ n)) (by show some (Int32.ofInt 1 <<< (nI n &&& 31)) = some _; rw [bq_sh n (by omega)]) (rl_icmpF ?_ (rl_const (rl_store rfl ?_))))))
      · show some (decide (nI (2 ^ n) ≤ nI S)) = some false
        rw [decide_eq_false (by rw [tx_le (by omega) (by omega)]; omega)]
      refine inner S hS2 (fun h3 hT3 hF3 hL3 hR3 hM3 L3 m0 m1 m2 => ?_) n 0 h' _ (by omega) hT' hF hL' ⟨hR.1, fun j h1 => absurd h1 (Nat.not_lt_zero _)⟩ hM (get_put rfl rfl (by omega) l0) (get_put rfl rfl (by omega) l1) (get_put rfl rfl (by omega) l2) rfl
      obtain ⟨vp, xp⟩ := x8 h3 hT3 hF3
      have lt := LL_top (n := n) (hw := hw) (on := on) (p := 6) (S := S) (hB.1 6)
      rw [j131_59]
      refine rl_load m0 rfl (rl_const (rl_load m2 rfl (rl_callv (as := [.int (nI 6), .int (nI S)]) (r := []) s97 rfl rfl xp (by show 0 ≤ 8; omega) (three_ok m132) (X_leastOn hT3 hqp (lsp_frm hF3 hl) hn hB (lo_of hL3 hR3 h6 (Or.inr rfl)) (by omega) (by omega) (rl_store rfl ?_)))))
      have g3 : ∀ {k : Nat} {u : Value}, k ≤ 2 → u.category = 1 → lv_get k L3 = some u → lv_get k (lv_put 3 (.int (nI (LL n hw on 6 S))) L3) = some u := fun {k u} hk hu hz => get_put hu rfl (by omega) hz
      have fin : ∀ q32, ad 32 0 = some q32 → Rt σ 131 (jump 131 86) (lv_put 3 (.int (nI (LL n hw on 6 S))) L3) [.int (nI (smS n hw on rc S)), .int (nI S), .ref q32] h3 Q := fun q32 hq32 => by
        rw [j131_86]
        refine rl_prow hT3 pr_32 hq32 (by omega) (by omega) i2n_full fun h4 hT4 hO => rl_iinc (g3 (by omega) rfl m2) (rl_goto ?_)
        rw [nI_suc (by omega)]
        have o := fun {c' i' p' W} (hne : ¬ (c' = 32 ∧ (i' = 0 ∧ p' = S))) ha => hO.1.2 c' i' p' W hne ha
        refine ih (S + 1) h4 _ (by omega) hT4 (frm_trans hF3 (frm_one hO (Or.inl (by omega)))) (lgs_keep (fun c' i' p' W hc ha => o (fun e => by omega) ha) hL3) ⟨fun S' j h1 h2 h5 => o (fun e => absurd e.1 (by omega)) (hR3.1 S' j h1 h2 h5), fun j h1 => absurd h1 (Nat.not_lt_zero _)⟩ (fun S' h1 => ?_) (get_put rfl rfl (by omega) (g3 (by omega) rfl m0)) (get_put rfl rfl (by omega) (g3 (by omega) rfl m1)) rfl
        by_cases e : S' = S
        · rw [e]
          exact hO.1.1
        · exact o (fun f => e f.2.2) (hM3 S' (by omega))
      have hrc3 := hF3.1 8 0 1 _ (fun e => by unfold XP at e; omega) hrc
      refine rl_load (g3 (by omega) rfl m0) rfl (ra_prow hT3 hqp (by rw [f63']; exact t7) f63 fun q32 hq32 => rl_load (g3 (by omega) rfl m2) rfl (rl_load (v := .int (nI (LL n hw on 6 S))) rfl rfl (rl_load (g3 (by omega) rfl m0) rfl (ra_get hT3.1 (by omega) (by omega) hqp (by rw [f46']; exact hrc3) (by rw [c8]; exact f46) ?_))))
      have fin := fin q32 hq32
      unfold smS at fin
      by_cases e : rc < LL n hw on 6 S
      · rw [if_pos e] at fin
        refine rl_icmpF (by show some (decide (nI (LL n hw on 6 S) ≤ nI rc)) = some false; rw [decide_eq_false (by rw [tx_le (by omega) (by omega)]; omega)]) (rl_const (rl_goto ?_))
        exact fin
      · rw [if_neg e] at fin
        refine rl_icmpT (by show some (decide (nI (LL n hw on 6 S) ≤ nI rc)) = some true; rw [decide_eq_true ((tx_le (by omega) (by omega)).mpr (by omega))]) ?_
        show Rt σ 131 (jump 131 85) _ _ _ _
        rw [j131_85]
        exact rl_load (v := .int (nI (LL n hw on 6 S))) rfl rfl fin
  rw [head_131]
  refine rl_load rfl rfl (rl_tc hT hqp hl hn (by show 0 ≤ 8; omega) (rl_store rfl (rl_const (rl_store rfl ?_))))
  exact outer (2 ^ n) 0 h _ (by omega) hT frm_refl hL ⟨fun S j h1 => absurd h1 (Nat.not_lt_zero _), fun j h1 => absurd h1 (Nat.not_lt_zero _)⟩ (fun S h1 => absurd h1 (Nat.not_lt_zero _)) rfl rfl rfl
end
end
